/-! WORDS, WORD: the pairs -/
section WP
variable {L : Nat} {xs : Nat → Int32} {d : Nat} {s : sT} {K : Option Int32 → sT → Prop} {R : rmT} {I : Nat → Option rmT} {X0 X1 : Cond} {w n : Nat}
theorem r_listed (hw : w < 6) (hn : n ≤ 8) (x3 : Int32) (hR : simR s R I) (hI : ∀ k R', k < 2 → I k = some R' → rmB gD R') (h0 : cn X0 ∧ z0 X0 ≤ 30 ∧ R.2.2.1 = sdOf X0) (h1 : cn X1 ∧ z0 X1 ≤ 30 ∧ R.2.2.2.1 = sdOf X1)
    (hf : ∀ k, x3 = nI k → k < 2147483648 → k < cw (tms X0) (tms X1) w n 1 1 → ∀ s', simR s' R I → (∀ i, i < 186 → s'.1 i = s.1 i ∧ s'.2 i = s.2 i) → K (some (nI (kth (tms X0) (tms X1) w n 1 1 k 0))) s')
    (hg : ¬ fdB x3 0 (cw (tms X0) (tms X1) w n 1 1) → ∀ s', simR s' R I → (∀ i, i < 186 → s'.1 i = s.1 i ∧ s'.2 i = s.2 i) → K (some (if x3 = -1 then nI (cw (tms X0) (tms X1) w n 1 1) else -1)) s') : tT (yY L xs) (d + 10) 226 0 [.ref 186, .int (nI w), .int (nI n), .int x3, .null, .null] [] s K := by
  refine b_226_0 (m_isIn (fun _ _ => ?_) (fun q => False.elim ?_))
  rotate_left
  · rcases q with q | q
    · exact nI_nn (by omega) q
    · rw [nI_lit 5, nJ_lt (by omega) (by omega)] at q; omega
  rw [rt_some]
  refine b_226_6 ?_
  rw [if_neg (by decide)]
  refine m_isIn (fun _ _ => ?_) (fun q => False.elim ?_)
  rotate_left
  · rcases q with q | q
    · exact nI_nn (by omega) q
    · rw [nI_lit 8, nJ_lt (by omega) (by omega)] at q; omega
  rw [rt_some]
  refine b_226_16 ?_
  rw [if_pos (by decide)]
  refine ⟨so_186, r_lay (d := d) hR hI h0.1 h0.2.1 h1.1 h1.2.1 h0.2.2 h1.2.2 (fun s1 T g1 g2 g3 g4 g5 g6 g7 => ?_)⟩
  rw [rt_none]
  have hT1 : rT s1 T X0 X1 := ⟨g1, g2, g5, g6⟩
  obtain ⟨p1, p2, p3⟩ := g7.2.2.1
  have sim : ∀ s', fL' s1 s' → simR s' R I ∧ ∀ i, i < 186 → s'.1 i = s.1 i ∧ s'.2 i = s.2 i := fun s' f => by
    have o : ∀ z, z < 200 → s'.1 z = s1.1 z := fun z hz => f.2 z (by omega)
    refine ⟨simR_mk g7 hI f.1 (fun t ht => by rw [o 188 (by decide)]; exact p2 t ht) (o 189 (by decide)) (by rw [o 186 (by decide)]; exact p1) (by rw [o 186 (by decide)]; exact p3) (fun t ht => by rw [o 187 (by decide)]) (by rw [o 187 (by decide)]; exact g7.2.1), fun i hi => ⟨(o i (by omega)).trans (g4.2.1 i (by omega) (by omega)), by rw [f.1, g4.1]⟩⟩
  have p8 := p38 n hn
  have zero : ∀ q i (s2 : sT), q + i = n → fL' s1 s2 → (∀ j, j < i → s2.1 218 j = 0) → tT (yY L xs) (d + 10) 226 31 [.ref 186, .int (nI w), .int (nI n), .int x3, .int (nI i), .null] [] s2 K := by
    intro q
    induction q with
    | zero =>
      intro i s2 hi f2 hz
      have hT2 := rT_fL' hT1 f2
      refine b_226_31 ?_
      rw [if_pos (by rw [nJ_le (by omega) (by omega)]; omega)]
      refine r_block (d := d + 6) (N := n) hw hn x3 n [] 0 s2 (by show 0 + n = n; omega) (fun x hx => by cases hx) (by omega) hT2 (fun j x hj => ?_) (fun k q1 q2 _ q4 s' f' => ?_) (fun hnf s3 f3 hL3 => ?_)
      · rw [List.nil_append, List.getElem?_replicate] at hj
        by_cases e : j < n
        · rw [if_pos e] at hj; cases hj; rw [hz j (by omega)]; rfl
        · rw [if_neg e] at hj; cases hj
      · obtain ⟨z1, z2⟩ := sim s' (fL'_trans f2 f')
        exact hf k q1 q2 (by rw [Nat.zero_add] at q4; exact q4) s' z1 z2
      · have hT3 := rT_fL' hT2 f3
        rw [List.nil_append] at hL3
        refine b_226_86 ⟨so_186, r_endOn hT3.1.1 hn hL3 (fun s4 f4 => ?_)⟩
        rw [rt_some]
        refine b_226_91 (b_226_57 ?_)
        rw [if_pos rfl, Nat.zero_add]
        obtain ⟨z1, z2⟩ := sim s4 (fL'_trans f2 (fL'_trans f3 f4))
        have := hg hnf s4 z1 z2
        by_cases e : x3 = -1
        · rw [if_pos e] at this
          rw [if_neg (fun q => q e)]; exact this
        · rw [if_neg e] at this
          rw [if_pos e]; exact this
    | succ q ih =>
      intro i s2 hi f2 hz
      have hM2 := (rT_fL' hT1 f2).1.1
      refine b_226_31 ?_
      rw [if_neg (by rw [nJ_le (by omega) (by omega)]; omega)]
      refine ⟨218, ⟨so_186, rm_186_45 hM2⟩, 8, ⟨sa_218, inR_nI (by omega) (by decide)⟩, ?_⟩
      rw [nI_cl (show i < 2147483648 by omega), ← nI_succ i]
      refine ih (i + 1) _ (by omega) (fL'_put f2) (fun j hj => ?_)
      rw [pV_1]
      by_cases e : j = i
      · rw [if_pos ⟨rfl, e⟩]
      · rw [if_neg (by omega)]; exact hz j (by omega)
  exact b_226_28 (zero n 0 s1 (by omega) (fL'_refl s1) (fun j hj => absurd hj (Nat.not_lt_zero _)))
end WP
