/-! WORDS, WORD: the pairs -/
section WP
variable {L : Nat} {xs : Nat → Int32} {d : Nat} {s : sT} {K : Option Int32 → sT → Prop} {R : rmT} {I : Nat → Option rmT} {X0 X1 : Cond} {w n : Nat}
theorem r_listed (hw : w < 6) (hn : n ≤ 8) (x3 : Int32) (hR : simR s R I) (hI : ∀ k R', k < 2 → I k = some R' → rmB gD R') (h0 : cn X0 ∧ z0 X0 ≤ 30 ∧ R.2.2.1 = sdOf X0) (h1 : cn X1 ∧ z0 X1 ≤ 30 ∧ R.2.2.2.1 = sdOf X1)
    (hf : ∀ k, x3 = nI k → k < 2147483648 → k < cw (tms X0) (tms X1) w n 1 1 → ∀ s', simR s' R I → (∀ i, i < 186 → s'.1 i = s.1 i ∧ s'.2 i = s.2 i) → K (some (nI (kth (tms X0) (tms X1) w n 1 1 k 0))) s')
    (hg : ¬ fdB x3 0 (cw (tms X0) (tms X1) w n 1 1) → ∀ s', simR s' R I → (∀ i, i < 186 → s'.1 i = s.1 i ∧ s'.2 i = s.2 i) → K (some (if x3 = -1 then nI (cw (tms X0) (tms X1) w n 1 1) else -1)) s') : tT (yY L xs) (d + 10) 226 0 [.ref 186, .int (nI w), .int (nI n), .int x3, .null, .null] [] s K := by
  refine b_226_0 (m_isIn (fun _ _ => ?_) (fun q => ?_))
  case _ =>
    exfalso
    rcases q with q | q
    · exact nI_nn (by omega) q
    · rw [nI_lit 5, nJ_lt (by omega) (by omega)] at q; omega
  rw [rt_some]
  refine b_226_6 ?_
  rw [if_neg (by decide)]
  refine m_isIn (fun _ _ => ?_) (fun q => ?_)
  case _ =>
    exfalso
    rcases q with q | q
    · exact nI_nn (by omega) q
    · rw [nI_lit 8, nJ_lt (by omega) (by omega)] at q; omega
  rw [rt_some]
  refine b_226_16 ?_
  rw [if_pos (by decide)]
  refine ⟨so_186, r_lay (d := d) hR hI h0.1 h0.2.1 h1.1 h1.2.1 h0.2.2 h1.2.2 (fun s1 T g1 g2 g3 g4 g5 g6 g7 => ?_)⟩
  rw [rt_none]
  have hT1 : rT s1 T X0 X1 := ⟨g1, g2, g5, g6⟩
  obtain ⟨p1, p2, p3⟩ := g7.2.2.1
  have sim : ∀ s', fL' s1 s' → simR s' R I ∧ ∀ i, i < 186 → s'.1 i = s.1 i ∧ s'.2 i = s.2 i := fun s' f => by
    have o : ∀ z, z < 200 → s'.1 z = s1.1 z := fun z hz => f.2 z (by omega)
    refine ⟨simR_mk g7 hI f.1 (fun t ht => by rw [o 188 (by decide)]; exact p2 t ht) (o 189 (by decide)) (by rw [o 186 (by decide)]; exact p1) (by rw [o 186 (by decide)]; exact p3) (fun t ht => by rw [o 187 (by decide)]) (by rw [o 187 (by decide)]; exact g7.2.1), fun i hi => ⟨(o i (by omega)).trans (g4.2.1 i (by omega) (by omega)), by rw [f.1, g4.1]⟩⟩
  have p8 := p38 n hn
  have zero : ∀ q i (s2 : sT), q + i = n → fL' s1 s2 → (∀ j, j < i → s2.1 218 j = 0) → tT (yY L xs) (d + 10) 226 31 [.ref 186, .int (nI w), .int (nI n), .int x3, .int (nI i), .null] [] s2 K := by
    intro q
    induction q with
    | zero =>
      intro i s2 hi f2 hz
      have hT2 := rT_fL' hT1 f2
      refine b_226_31 ?_
      rw [if_pos (by rw [nJ_le (by omega) (by omega)]; omega)]
      refine r_block (d := d + 6) (N := n) hw hn x3 n [] 0 s2 (by show 0 + n = n; omega) (fun x hx => by cases hx) (by omega) hT2 (fun j x hj => ?_) (fun k q1 q2 _ q4 s' f' => ?_) (fun hnf s3 f3 hL3 => ?_)
      · rw [List.nil_append, List.getElem?_replicate] at hj
        by_cases e : j < n
        · rw [if_pos e] at hj; cases hj; rw [hz j (by omega)]; rfl
        · rw [if_neg e] at hj; cases hj
      · obtain ⟨z1, z2⟩ := sim s' (fL'_trans f2 f')
        exact hf k q1 q2 (by rw [Nat.zero_add] at q4; exact q4) s' z1 z2
      · have hT3 := rT_fL' hT2 f3
        rw [List.nil_append] at hL3
        refine b_226_86 ⟨so_186, r_endOn hT3.1.1 hn hL3 (fun s4 f4 => ?_)⟩
        rw [rt_some]
        refine b_226_91 (b_226_57 ?_)
        rw [if_pos rfl, Nat.zero_add]
        obtain ⟨z1, z2⟩ := sim s4 (fL'_trans f2 (fL'_trans f3 f4))
        have := hg hnf s4 z1 z2
        by_cases e : x3 = -1
        · rw [if_pos e] at this
          rw [if_neg (fun q => q e)]; exact this
        · rw [if_neg e] at this
          rw [if_pos e]; exact this
    | succ q ih =>
      intro i s2 hi f2 hz
      have hM2 := (rT_fL' hT1 f2).1.1
      refine b_226_31 ?_
      rw [if_neg (by rw [nJ_le (by omega) (by omega)]; omega)]
      refine ⟨218, ⟨so_186, rm_186_45 hM2⟩, 8, ⟨sa_218, inR_nI (by omega) (by decide)⟩, ?_⟩
      rw [nI_cl (show i < 2147483648 by omega), ← nI_succ i]
      refine ih (i + 1) _ (by omega) (fL'_put f2) (fun j hj => ?_)
      rw [pV_1]
      by_cases e : j = i
      · rw [if_pos ⟨rfl, e⟩]
      · rw [if_neg (by omega)]; exact hz j (by omega)
  exact b_226_28 (zero n 0 s1 (by omega) (fL'_refl s1) (fun j hj => absurd hj (Nat.not_lt_zero _)))
theorem r_listed_no {a b x3 : Int32} (hR : simR s R I) (h : ¬ ((∃ w, w < 6 ∧ a = nI w) ∧ ∃ n, n < 9 ∧ b = nI n)) (hK : K (some (-1)) s) : tT (yY L xs) (d + 1) 226 0 [.ref 186, .int a, .int b, .int x3, .null, .null] [] s K := by
  refine b_226_0 (m_isIn0 (m := 6) (by decide) (fun w ea hw => ?_) (fun q => ?_))
  · rw [rt_some]
    refine b_226_6 ?_
    rw [if_neg (by decide)]
    refine m_isIn0 (m := 9) (by decide) (fun n eb hn => absurd ⟨⟨w, hw, ea⟩, n, hn, eb⟩ h) (fun q => ?_)
    rw [rt_some]
    refine b_226_16 ?_
    rw [if_neg (fun q => q rfl)]
    exact hK
  · rw [rt_some]
    refine b_226_6 ?_
    rw [if_pos rfl]
    exact hK
theorem c_canCount {a b : Int32} (h1 : ((∃ w, w < 6 ∧ a = nI w) ∧ ∃ n, n < 9 ∧ b = nI n) → K (some 1) s) (h0 : ¬ ((∃ w, w < 6 ∧ a = nI w) ∧ ∃ n, n < 9 ∧ b = nI n) → K (some 0) s) : tT (yY L xs) d 140 0 [.int a, .int b] [] s K := by
  refine b_140_0 ?_
  by_cases a0 : a < 0
  · rw [if_pos a0]
    exact h0 (by rintro ⟨⟨w, hw, rfl⟩, -⟩; exact nI_nn (by omega) a0)
  rw [if_neg a0]
  by_cases a6 : (6 : Int32) ≤ a
  · rw [if_pos a6]
    refine h0 ?_
    rintro ⟨⟨w, hw, rfl⟩, -⟩
    rw [nI_lit 6, nJ_le (by omega) (by omega)] at a6; omega
  rw [if_neg a6]
  by_cases b0 : b < 0
  · rw [if_pos b0]
    exact h0 (by rintro ⟨-, n, hn, rfl⟩; exact nI_nn (by omega) b0)
  rw [if_neg b0]
  by_cases b8 : (8 : Int32) < b
  · rw [if_pos b8]
    refine h0 ?_
    rintro ⟨-, n, hn, rfl⟩
    rw [nI_lit 8, nJ_lt (by omega) (by omega)] at b8; omega
  rw [if_neg b8]
  obtain ⟨w, hw, rfl⟩ := i32_ex a0
  obtain ⟨n, hn, rfl⟩ := i32_ex b0
  rw [nI_lit 6, nJ_le (by omega) hw] at a6
  rw [nI_lit 8, nJ_lt (by omega) hn] at b8
  exact h1 ⟨⟨w, by omega, rfl⟩, n, by omega, rfl⟩
theorem simC_Z {s' : sT} (hC : simC s R I) (f : fZ s s') (hP : rP s'.2) : simC s' R I ∧ ∀ i, (186 ≤ i ∨ i < 9 ∨ i = 26 ∨ i = 35) → s'.1 i = s.1 i ∧ s'.2 i = s.2 i :=
  ⟨simC_low hC hP (f.1 64 (by decide)) (fun i a b => f.2 i (by omega)), fun i hi => ⟨f.2 i (by omega), f.1 i (by omega)⟩⟩
theorem c_words (hw : w < 6) (hn : n ≤ 8) (hC : simC s R I) (h0 : cn X0 ∧ z0 X0 ≤ 30 ∧ R.2.2.1 = sdOf X0) (h1 : cn X1 ∧ z0 X1 ≤ 30 ∧ R.2.2.2.1 = sdOf X1) : doC (yY L xs) (d + 20) 124 [.ref 0, .int (nI w), .int (nI n)] s R I (some (nI (cw (tms X0) (tms X1) w n 1 1))) R I := by
  intro K kk
  have hP := hC.1
  obtain ⟨c0, hc0, hx0, hs0⟩ := now_side2 (L := L) (xs := xs) (σ := 0) hC (by decide) (show sideOf R 0 = _ from h0.2.2) h0.1 h0.2.1
  obtain ⟨c1, hc1, hx1, hs1⟩ := now_side2 (L := L) (xs := xs) (σ := 1) hC (by decide) (show sideOf R 1 = _ from h1.2.2) h1.1 h1.2.1
  refine b_124_0 (c_canCount (fun _ => ?_) (fun h => absurd ⟨⟨w, hw, rfl⟩, n, by omega, rfl⟩ h))
  rw [rt_some]
  refine b_124_5 ?_
  rw [if_pos (by decide)]
  refine ⟨56, ⟨so_0, rp_0_4 hP⟩, 61, ⟨so_0, rp_0_8 hP⟩, 64, ⟨so_61, rp_61_1 hP⟩, 5, 2, c0, ⟨sq_64, inR_nI (k := 0) (by decide) (by decide), hc0⟩, 61, ⟨so_0, rp_0_8 hP⟩, 64, ⟨so_61, rp_61_1 hP⟩, 5, 2, c1, ⟨sq_64, inR_nI (k := 1) (by decide) (by decide), hc1⟩, so_56, c_howMany (d := d) hw hn hP hx0 hx1 hs0 hs1 (fun s' f hQ => ?_)⟩
  rw [rt_some]
  obtain ⟨z1, z2⟩ := simC_Z hC f hQ.1
  exact b_124_37 (kk s' z1 z2)
def wrA (F0 F1 : List Cond) (w n : Nat) (x : Int32) : Int32 := if x < 0 then -1 else if x.toNatClampNeg < cw F0 F1 w n 1 1 then nI (kth F0 F1 w n 1 1 x.toNatClampNeg 0) else -1
theorem c_word (hw : w < 6) (hn : n ≤ 8) (x : Int32) (hC : simC s R I) (h0 : cn X0 ∧ z0 X0 ≤ 30 ∧ R.2.2.1 = sdOf X0) (h1 : cn X1 ∧ z0 X1 ≤ 30 ∧ R.2.2.2.1 = sdOf X1) : doC (yY L xs) (d + 21) 125 [.ref 0, .int (nI w), .int (nI n), .int x] s R I (some (wrA (tms X0) (tms X1) w n x)) R I := by
  intro K kk
  have hP := hC.1
  obtain ⟨c0, hc0, hx0, hs0⟩ := now_side2 (L := L) (xs := xs) (σ := 0) hC (by decide) (show sideOf R 0 = _ from h0.2.2) h0.1 h0.2.1
  obtain ⟨c1, hc1, hx1, hs1⟩ := now_side2 (L := L) (xs := xs) (σ := 1) hC (by decide) (show sideOf R 1 = _ from h1.2.2) h1.1 h1.2.1
  unfold wrA at kk
  refine b_125_0 (c_canCount (fun _ => ?_) (fun h => absurd ⟨⟨w, hw, rfl⟩, n, by omega, rfl⟩ h))
  rw [rt_some]
  refine b_125_5 ?_
  rw [if_neg (by decide)]
  by_cases hx : x < 0
  · rw [if_neg (Int32.not_le.mpr hx)]
    rw [if_pos hx] at kk
    exact kk s hC (fun _ _ => ⟨rfl, rfl⟩)
  rw [if_pos (Int32.not_lt.mp hx)]
  rw [if_neg hx] at kk
  obtain ⟨k, hk, rfl⟩ := i32_ex hx
  rw [nI_cl hk] at kk
  refine ⟨56, ⟨so_0, rp_0_4 hP⟩, 61, ⟨so_0, rp_0_8 hP⟩, 64, ⟨so_61, rp_61_1 hP⟩, 5, 2, c0, ⟨sq_64, inR_nI (k := 0) (by decide) (by decide), hc0⟩, 61, ⟨so_0, rp_0_8 hP⟩, 64, ⟨so_61, rp_61_1 hP⟩, 5, 2, c1, ⟨sq_64, inR_nI (k := 1) (by decide) (by decide), hc1⟩, so_56, c_nth (d := d) hw hn hk hP hx0 hx1 hs0 hs1 (fun hlt s' f hP' => ?_) (fun hlt s' f hP' => ?_)⟩
  · rw [rt_some]
    rw [if_pos hlt] at kk
    obtain ⟨z1, z2⟩ := simC_Z hC f hP'
    exact b_125_42 (kk s' z1 z2)
  · rw [rt_some]
    rw [if_neg hlt] at kk
    obtain ⟨z1, z2⟩ := simC_Z hC f hP'
    exact b_125_42 (kk s' z1 z2)
theorem pr_words (a b : Int32) : pairOK (yY L xs) (Sim gD) (d + 20) 124 227 [.ref 0, .int a, .int b] [.ref 186, .int a, .int b] true := by
  refine pair_of fun s R I hC hR hB hI => ?_
  by_cases h : (∃ w, w < 6 ∧ a = nI w) ∧ ∃ n, n < 9 ∧ b = nI n
  · obtain ⟨⟨w, hw, rfl⟩, n, hn, rfl⟩ := h
    obtain ⟨X0, X1, h0, h1⟩ := both_X hB
    refine ⟨_, R, I, rfl, hB, hI, c_words (d := d) hw (by omega) hC h0 h1, fun s1 hR1 K kk => ?_⟩
    refine b_227_0 ⟨so_186, tt_mono (r_listed (d := d) hw (by omega) (-1) hR1 hI h0 h1 (fun k q1 q2 => absurd q1.symm (nn1 q2)) (fun _ s' z1 z2 => ?_)) (by omega) (fun _ _ q => q)⟩
    rw [rt_some, if_pos rfl]
    exact b_227_7 (kk s' z1 z2)
  · refine ⟨some (-1), R, I, rfl, hB, hI, fun K kk => ?_, fun s1 hR1 K kk => ?_⟩
    · refine b_124_0 (c_canCount (fun q => absurd q h) (fun _ => ?_))
      rw [rt_some]
      refine b_124_5 ?_
      rw [if_neg (fun q => q rfl)]
      exact kk s hC (fun _ _ => ⟨rfl, rfl⟩)
    · refine b_227_0 ⟨so_186, r_listed_no (d := d + 18) hR1 h ?_⟩
      rw [rt_some]
      exact b_227_7 (kk s1 hR1 (fun _ _ => ⟨rfl, rfl⟩))
theorem pr_word (a b x : Int32) : pairOK (yY L xs) (Sim gD) (d + 21) 125 228 [.ref 0, .int a, .int b, .int x] [.ref 186, .int a, .int b, .int x] true := by
  refine pair_of fun s R I hC hR hB hI => ?_
  by_cases h : (∃ w, w < 6 ∧ a = nI w) ∧ ∃ n, n < 9 ∧ b = nI n
  · obtain ⟨⟨w, hw, rfl⟩, n, hn, rfl⟩ := h
    obtain ⟨X0, X1, h0, h1⟩ := both_X hB
    refine ⟨_, R, I, rfl, hB, hI, c_word (d := d) hw (by omega) x hC h0 h1, fun s1 hR1 K kk => ?_⟩
    unfold wrA at kk
    refine b_228_0 ?_
    by_cases hx : x < 0
    · rw [if_neg (Int32.not_le.mpr hx)]
      rw [if_pos hx] at kk
      exact b_228_15 (kk s1 hR1 (fun _ _ => ⟨rfl, rfl⟩))
    rw [if_pos (Int32.not_lt.mp hx)]
    rw [if_neg hx] at kk
    obtain ⟨k, hk, rfl⟩ := i32_ex hx
    rw [nI_cl hk] at kk
    refine ⟨so_186, tt_mono (r_listed (d := d) hw (by omega) (nI k) hR1 hI h0 h1 (fun k' q1 q2 q3 s' z1 z2 => ?_) (fun hnf s' z1 z2 => ?_)) (by omega) (fun _ _ q => q)⟩
    · rw [rt_some]
      have : k = k' := (nJ_eq hk q2).mp q1
      subst this
      rw [if_pos q3] at kk
      exact b_228_15 (kk s' z1 z2)
    · rw [rt_some, if_neg (nn1 hk)]
      rw [if_neg (fun q => hnf ⟨k, rfl, hk, Nat.zero_le _, by omega⟩)] at kk
      exact b_228_15 (kk s' z1 z2)
  · refine ⟨some (-1), R, I, rfl, hB, hI, fun K kk => ?_, fun s1 hR1 K kk => ?_⟩
    · refine b_125_0 (c_canCount (fun q => absurd q h) (fun _ => ?_))
      rw [rt_some]
      refine b_125_5 ?_
      rw [if_pos rfl]
      exact kk s hC (fun _ _ => ⟨rfl, rfl⟩)
    · have k := kk s1 hR1 (fun _ _ => ⟨rfl, rfl⟩)
      refine b_228_0 ?_
      split
      · refine ⟨so_186, r_listed_no (d := d + 19) hR1 h ?_⟩
        rw [rt_some]
        exact b_228_15 k
      · exact b_228_15 k
end WP
