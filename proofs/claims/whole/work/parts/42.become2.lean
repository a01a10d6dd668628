/-! LINES become others; a room becomes another -/
section BE2
variable {Y : sY} {d : Nat} {s : sT} {K : Option Int32 → sT → Prop}
theorem ln_b2 {l o m q : Nat} (hl : lnK Y s.2 l) (ho : lnK Y s.2 o) (hm : m ≤ 300) (hq : q ≤ 9300) (hdis : l + 9 ≤ o ∨ o + 9 ≤ l) (h8 : s.1 l 8 = nI m) (h9 : s.1 l 9 = nI q)
    (h : ∀ s' : sT, s'.2 = s.2 → (∀ i, ¬ (l + 1 ≤ i ∧ i < l + 7) → s'.1 i = s.1 i) → (∀ k, 1 ≤ k → k ≤ 5 → ∀ i, i < m → s'.1 (l + k) i = s.1 (o + k) i) → (∀ i, i < q → s'.1 (l + 6) i = s.1 (o + 6) i) → K none s') : tT Y (d + 1) 20 43 [.ref l, .ref o] [] s K := by
  obtain ⟨l1, ⟨r0, r1, r2, r3, r4, r5, _⟩, a1, a2, a3, a4, a5, a6, _⟩ := hl
  obtain ⟨o1, ⟨p0, p1, p2, p3, p4, p5, _⟩, c1, c2, c3, c4, c5, c6, _⟩ := ho
  have z0 : ((0 : Int32)).toNatClampNeg = 0 := rfl
  have hcp : cpOK 0 0 (nI m) 300 300 := cp_ok hm hm (by omega)
  refine b_20_43 ⟨o + 1, ⟨o1, p0⟩, l + 1, ⟨l1, r0⟩, l1, 300, 300, ?_⟩
  rw [h8, nI_cl (by omega), z0]
  refine ⟨⟨c1, a1, hcp⟩, ?_⟩
  refine b_20_60 ⟨o + 2, ⟨o1, p1⟩, l + 2, ⟨l1, r1⟩, l1, 300, 300, ?_⟩
  rw [pA_1, if_neg (by omega), h8, nI_cl (by omega), z0]
  refine ⟨⟨c2, a2, hcp⟩, ?_⟩
  refine b_20_77 ⟨o + 3, ⟨o1, p2⟩, l + 3, ⟨l1, r2⟩, l1, 300, 300, ?_⟩
  rw [pA_1, if_neg (by omega), pA_1, if_neg (by omega), h8, nI_cl (by omega), z0]
  refine ⟨⟨c3, a3, hcp⟩, ?_⟩
  refine b_20_94 ⟨o + 4, ⟨o1, p3⟩, l + 4, ⟨l1, r3⟩, l1, 300, 300, ?_⟩
  rw [pA_1, if_neg (by omega), pA_1, if_neg (by omega), pA_1, if_neg (by omega), h8, nI_cl (by omega), z0]
  refine ⟨⟨c4, a4, hcp⟩, ?_⟩
  refine b_20_111 ⟨o + 5, ⟨o1, p4⟩, l + 5, ⟨l1, r4⟩, l1, 300, 300, ?_⟩
  rw [pA_1, if_neg (by omega), pA_1, if_neg (by omega), pA_1, if_neg (by omega), pA_1, if_neg (by omega), h8, nI_cl (by omega), z0]
  refine ⟨⟨c5, a5, hcp⟩, ?_⟩
  refine b_20_128 ⟨o + 6, ⟨o1, p5⟩, l + 6, ⟨l1, r5⟩, l1, 9300, 9300, ?_⟩
  rw [pA_1, if_neg (by omega), pA_1, if_neg (by omega), pA_1, if_neg (by omega), pA_1, if_neg (by omega), pA_1, if_neg (by omega), h9, nI_cl (by omega), z0]
  refine ⟨⟨c6, a6, cp_ok hq hq (by omega)⟩, ?_⟩
  refine b_20_145 (h _ rfl (fun i hi => ?_) (fun k hk1 hk5 i hi => ?_) (fun i hi => ?_))
  · funext j
    rw [pA_1, if_neg (by omega), pA_1, if_neg (by omega), pA_1, if_neg (by omega), pA_1, if_neg (by omega), pA_1, if_neg (by omega), pA_1, if_neg (by omega)]
  · rcases (show k = 1 ∨ k = 2 ∨ k = 3 ∨ k = 4 ∨ k = 5 by omega) with rfl | rfl | rfl | rfl | rfl
    · rw [pA_1, if_neg (by omega), pA_1, if_neg (by omega), pA_1, if_neg (by omega), pA_1, if_neg (by omega), pA_1, if_neg (by omega), pA_1, if_pos rfl, cpy0, if_pos hi]
    · rw [pA_1, if_neg (by omega), pA_1, if_neg (by omega), pA_1, if_neg (by omega), pA_1, if_neg (by omega), pA_1, if_pos rfl, cpy0, if_pos hi, pA_1, if_neg (by omega)]
    · rw [pA_1, if_neg (by omega), pA_1, if_neg (by omega), pA_1, if_neg (by omega), pA_1, if_pos rfl, cpy0, if_pos hi, pA_1, if_neg (by omega), pA_1, if_neg (by omega)]
    · rw [pA_1, if_neg (by omega), pA_1, if_neg (by omega), pA_1, if_pos rfl, cpy0, if_pos hi, pA_1, if_neg (by omega), pA_1, if_neg (by omega), pA_1, if_neg (by omega)]
    · rw [pA_1, if_neg (by omega), pA_1, if_pos rfl, cpy0, if_pos hi, pA_1, if_neg (by omega), pA_1, if_neg (by omega), pA_1, if_neg (by omega), pA_1, if_neg (by omega)]
  · rw [pA_1, if_pos rfl, cpy0, if_pos hi, pA_1, if_neg (by omega), pA_1, if_neg (by omega), pA_1, if_neg (by omega), pA_1, if_neg (by omega), pA_1, if_neg (by omega)]
theorem ln_become {l o : Nat} {N : lnT} (hl : lnK Y s.2 l) (ho : lnK Y s.2 o) (hN : lnC s.1 o N) (hB : lnB N) (hdis : l + 9 ≤ o ∨ o + 9 ≤ l)
    (h : ∀ s' : sT, s'.2 = s.2 → (∀ i, ¬ (l ≤ i ∧ i < l + 9) → s'.1 i = s.1 i) → lnC s'.1 l N → K none s') : tT Y (d + 2) 20 0 [.ref l, .ref o] [] s K := by
  have hl0 := hl
  have ho0 := ho
  have l1 := hl.1
  have o1 := ho.1
  have rl := hl.2.1.2.2.2.2.2.2
  have ro := ho.2.1.2.2.2.2.2.2
  have tl := hl.2.2.2.2.2.2.2.2
  have tO := ho.2.2.2.2.2.2.2.2
  obtain ⟨⟨n1, n2, n3⟩, n4, n5, n6, n7, n8, n9, ⟨z, hz, n10⟩, n11⟩ := hN
  obtain ⟨b1, b2, b3⟩ := hB
  have hp : psum N.2.1 N.1.1 ≤ 9300 := by have := psum_le (f := N.2.1) N.1.1 b2; omega
  have h01 : s.1 o 11 = 0 ∨ s.1 o 11 = 1 := by
    cases hx : N.2.2.2.2 with
    | none => rw [hx] at n11; exact Or.inl n11
    | some q => rw [hx] at n11; exact Or.inr n11.1
  have hne : ¬ o = l := by omega
  refine b_20_0 ⟨o1, l1, b_20_8 ⟨o1, l1, b_20_16 ⟨o1, l1, b_20_24 ⟨o1, l1, ?_, ?_⟩⟩⟩⟩
  · simp only [pV_1, hne, false_and, if_false]; exact h01
  simp only [pV_1, hne, false_and, if_false]
  have t3 : (pV (pV (pV (pV s l 8 (s.1 o 8)) l 9 (s.1 o 9)) l 10 (s.1 o 10)) l 11 (s.1 o 11)).2 = s.2 := rfl
  have tV : ∀ i, i ≠ l → (pV (pV (pV (pV s l 8 (s.1 o 8)) l 9 (s.1 o 9)) l 10 (s.1 o 10)) l 11 (s.1 o 11)).1 i = s.1 i := by
    intro i hi
    funext j
    simp only [pV_1, hi, false_and, if_false]
  have tC : (pV (pV (pV (pV s l 8 (s.1 o 8)) l 9 (s.1 o 9)) l 10 (s.1 o 10)) l 11 (s.1 o 11)).1 l 8 = s.1 o 8 ∧ (pV (pV (pV (pV s l 8 (s.1 o 8)) l 9 (s.1 o 9)) l 10 (s.1 o 10)) l 11 (s.1 o 11)).1 l 9 = s.1 o 9 ∧ (pV (pV (pV (pV s l 8 (s.1 o 8)) l 9 (s.1 o 9)) l 10 (s.1 o 10)) l 11 (s.1 o 11)).1 l 10 = s.1 o 10 ∧ (pV (pV (pV (pV s l 8 (s.1 o 8)) l 9 (s.1 o 9)) l 10 (s.1 o 10)) l 11 (s.1 o 11)).1 l 11 = s.1 o 11 := by
    simp [pV_1]
  generalize pV (pV (pV (pV s l 8 (s.1 o 8)) l 9 (s.1 o 9)) l 10 (s.1 o 10)) l 11 (s.1 o 11) = s3 at t3 tV tC ⊢
  refine b_20_32 ⟨l + 7, ⟨l1, by rw [t3]; exact rl⟩, o + 7, ⟨o1, by rw [t3]; exact ro⟩, tl.1, x_become (d := d) (cap := 300) (capo := 300) (m := z) (by rw [t3]; exact tl) (by rw [t3]; exact tO) (by rw [tV _ (by omega)]; exact n10) hz hz (by omega) (by omega) (by omega) (fun s4 g2 g1 g3 go => ?_)⟩
  rw [rt_none]
  have f4 : ∀ i, ¬ (i = l + 7 ∨ i = l + 7 + 1) → s4.1 i = s3.1 i := fun i hi => (go i hi).1
  have t4 : s4.2 = s.2 := g2.trans t3
  refine ln_b2 (m := N.1.1) (q := psum N.2.1 N.1.1) (by rw [t4]; exact hl0) (by rw [t4]; exact ho0) b1 hp hdis (by rw [f4 l (by omega), tC.1]; exact n1) (by rw [f4 l (by omega), tC.2.1]; exact n2) (fun s5 k2 k1 k5 k6 => ?_)
  have cl : ∀ i, i ≠ l → ¬ (l + 7 ≤ i ∧ i < l + 9) → s4.1 i = s.1 i := fun i h1 h2 => (f4 i (by omega)).trans (tV i h1)
  refine h s5 (k2.trans t4) (fun i hi => (k1 i (by omega)).trans (cl i (by omega) (by omega))) ?_
  refine ⟨⟨?_, ?_, ?_⟩, fun i hi => ?_, fun i hi => ?_, fun i hi => ?_, fun i hi => ?_, fun i hi hpos => ?_, fun i hi j hj => ?_, ⟨z, hz, ?_⟩, ?_⟩
  · rw [k1 l (by omega), f4 l (by omega), tC.1]; exact n1
  · rw [k1 l (by omega), f4 l (by omega), tC.2.1]; exact n2
  · rw [k1 l (by omega), f4 l (by omega), tC.2.2.1]; exact n3
  · rw [k5 1 (by omega) (by omega) i hi, cl _ (by omega) (by omega)]; exact n4 i hi
  · rw [k5 2 (by omega) (by omega) i hi, cl _ (by omega) (by omega)]; exact n5 i hi
  · rw [k5 3 (by omega) (by omega) i hi, cl _ (by omega) (by omega)]; exact n6 i hi
  · rw [k5 5 (by omega) (by omega) i hi, cl _ (by omega) (by omega)]; exact n7 i hi
  · rw [k5 4 (by omega) (by omega) i hi, cl _ (by omega) (by omega)]; exact n8 i hi hpos
  · have := psum_in (f := N.2.1) hi
    rw [k6 _ (by omega), cl _ (by omega) (by omega)]; exact n9 i hi j hj
  · rw [k1 _ (by omega)]; exact g1
  · cases hx : N.2.2.2.2 with
    | none =>
      rw [hx] at n11
      show s5.1 l 11 = 0
      rw [k1 l (by omega), f4 l (by omega), tC.2.2.2]; exact n11
    | some q =>
      rw [hx] at n11
      obtain ⟨e1, e2, e3⟩ := n11
      have hzq : z = q.1 := by
        have hq := b3 q hx
        have := n10.symm.trans e2
        rwa [nJ_eq (by omega) (by omega)] at this
      subst hzq
      refine ⟨?_, ?_, fun j hj => ?_⟩
      · rw [k1 l (by omega), f4 l (by omega), tC.2.2.2]; exact e1
      · rw [k1 _ (by omega)]; exact g1
      · rw [k1 _ (by omega), g3 j hj, tV _ (by omega)]; exact e3 j hj
end BE2
