/-! THE REFERENCE'S image and again -/
section H7
variable {GD : sdT → Prop} {L : Nat} {xs : Nat → Int32} {D : Nat}
theorem m_isIn1 {Y : sY} {d : Nat} {s : sT} {K : Option Int32 → sT → Prop} {x : Int32} (h1 : ∀ k, k < 2 → x = nI k → K (some 1) s) (h0 : (∀ k, k < 2 → ¬ x = nI k) → K (some 0) s) : tT Y d 151 0 [.int x, .int 0, .int 1] [] s K := by
  refine m_isIn (fun hx hy => ?_) (fun hx => h0 (fun k hk e => ?_))
  · obtain ⟨n, hn, rfl⟩ := i32_ex hx
    rw [nI_lit 1, nJ_lt (by omega) hn] at hy
    exact h1 n (by omega) rfl
  · rw [e] at hx
    rcases hx with h | h
    · exact nI_nn (by omega) h
    · rw [nI_lit 1, nJ_lt (by omega) (by omega)] at h; omega
/-- the tape goes into an image -/
theorem r_tapeTo {d : Nat} {s : sT} {K : Option Int32 → sT → Prop} (hM : rM s.2) {b k : Nat} {x1 : Int32} (hb : b + 10752 ≤ 42882) (hx : x1 = nI k) (hk : k < 2)
    (h : ∀ s' : sT, s'.2 = s.2 → (∀ i, i ≠ 187 → i ≠ 189 → s'.1 i = s.1 i) → (∀ j, s'.1 189 j = if j = k then 1 else s.1 189 j) → (∀ j, ¬ (b + 10689 ≤ j ∧ j < b + 10752) → s'.1 187 j = s.1 187 j) → (∀ j, j < 60 → s'.1 187 (b + 10689 + j) = s.1 188 j) → s'.1 187 (b + 10749) = s.1 186 3 → s'.1 187 (b + 10750) = s.1 186 4 → K (some 1) s') : tT (yY L xs) (d + 1) 229 30 [.ref 186, .int x1, .int (nI b), .null] [] s K := by
  have loop : ∀ m q (s1 : sT), m + q = 60 → s1.2 = s.2 → (∀ i, i ≠ 187 → s1.1 i = s.1 i) → (∀ j, ¬ (b + 10689 ≤ j ∧ j < b + 10749) → s1.1 187 j = s.1 187 j) → (∀ j, j < q → s1.1 187 (b + 10689 + j) = s.1 188 j) → tT (yY L xs) (d + 1) 229 32 [.ref 186, .int x1, .int (nI b), .int (nI q)] [] s1 K := by
    intro m
    induction m with
    | zero =>
      intro q s1 hq e2 e1 eo et
      have hM1 : rM s1.2 := by rw [e2]; exact hM
      refine b_229_32 ?_
      rw [if_pos (by rw [nI_lit 60, nJ_le (by omega) (by omega)]; omega)]
      have a1 : nI b + 10689 + 60 = nI (b + 10749) := by rw [nI_lit 10689, nI_lit 60, nJ_add, nJ_add]
      have a2 : nI b + 10689 + 60 + 1 = nI (b + 10750) := by rw [a1, nI_lit 1, nJ_add]
      rw [a2, a1, nI_cl (by omega), nI_cl (by omega), hx, nI_cl (by omega)]
      refine ⟨187, ⟨so_186, rm_186_0 hM1⟩, so_186, 42882, ⟨sa_187, inR_nI (by omega) (by omega)⟩, 187, ⟨so_186, rm_186_0 hM1⟩, so_186, 42882, ⟨sa_187, inR_nI (by omega) (by omega)⟩, 189, ⟨so_186, rm_186_2 hM1⟩, 2, ⟨sa_189, inR_nI hk (by omega), Or.inr rfl⟩, ?_⟩
      refine h _ e2 (fun i h1 h2 => ?_) (fun j => ?_) (fun j hj => ?_) (fun j hj => ?_) ?_ ?_
      · rw [← e1 i h1]
        funext j
        rw [pV_1, if_neg (by omega), pV_1, if_neg (by omega), pV_1, if_neg (by omega)]
      · rw [pV_1]
        by_cases e : j = k
        · rw [if_pos ⟨rfl, e⟩, if_pos e]
        · rw [if_neg (fun z => e z.2), if_neg e, pV_1, if_neg (by omega), pV_1, if_neg (by omega), e1 189 (by omega)]
      · rw [pV_1, if_neg (by omega), pV_1, if_neg (by omega), pV_1, if_neg (by omega)]; exact eo j (by omega)
      · rw [pV_1, if_neg (by omega), pV_1, if_neg (by omega), pV_1, if_neg (by omega)]; exact et j (by omega)
      · rw [pV_1, if_neg (by omega), pV_1, if_neg (by omega), pV_1, if_pos ⟨rfl, rfl⟩, e1 186 (by omega)]
      · rw [pV_1, if_neg (by omega), pV_1, if_pos ⟨rfl, rfl⟩, pV_1, if_neg (by omega), e1 186 (by omega)]
    | succ m ih =>
      intro q s1 hq e2 e1 eo et
      have hM1 : rM s1.2 := by rw [e2]; exact hM
      refine b_229_32 ?_
      rw [if_neg (by rw [nI_lit 60, nJ_le (by omega) (by omega)]; omega)]
      have a1 : nI b + 10689 + nI q = nI (b + 10689 + q) := by rw [nI_lit 10689, nJ_add, nJ_add]
      rw [a1, nI_cl (by omega), nI_cl (by omega)]
      refine ⟨187, ⟨so_186, rm_186_0 hM1⟩, 188, ⟨so_186, rm_186_1 hM1⟩, 60, ⟨sa_188, inR_nI (by omega) (by omega)⟩, 42882, ⟨sa_187, inR_nI (by omega) (by omega)⟩, ?_⟩
      have := ih (q + 1) (pV s1 187 (b + 10689 + q) (s1.1 188 q)) (by omega) e2 (fun i hi => by rw [← e1 i hi]; funext j; rw [pV_1, if_neg (by omega)]) (fun j hj => by rw [pV_1, if_neg (by omega)]; exact eo j hj) (fun j hj => ?_)
      · rw [nI_succ] at this; exact this
      · rw [pV_1]
        by_cases e : j = q
        · subst e; rw [if_pos ⟨rfl, rfl⟩, e1 188 (by omega)]
        · rw [if_neg (by omega)]; exact et j (by omega)
  exact b_229_30 (loop 60 0 s (by omega) rfl (fun _ _ => rfl) (fun _ _ => rfl) (fun j hj => absurd hj (Nat.not_lt_zero j)))
theorem r_image (hGD : ∀ D, GD D → sdB D) {s : sT} {R : rmT} {I : Nat → Option rmT} (hR : simR s R I) (hB : rmB GD R) (hI : ∀ k R', k < 2 → I k = some R' → rmB GD R') {k : Nat} (hk : k < 2) : doR (yY L xs) (D + 1) 229 [.ref 186, .int (nI k), .null, .null] s R I (some 1) R (ll_up I k (some R)) := by
  intro K kk
  obtain ⟨hM, hr, ⟨p1, p2, p3⟩, q3⟩ := hR
  refine b_229_0 (m_isIn1 (fun i' hi' e => ?_) (fun h => absurd rfl (h k hk)))
  rw [rt_some]
  refine b_229_6 ?_
  rw [if_pos (by decide)]
  have a0 : (21378 : Int32) + 10752 * nI k = nI (21378 + 10752 * k) := by rw [nI_lit 21378, nI_lit 10752, nJ_mul, nJ_add]
  rw [a0]
  refine ⟨so_186, r_copies (p := 0) (q := 21378 + 10752 * k) (n := 10689) hM (by omega) (by omega) (by omega) (fun s1 e2 e1 e3 => ?_)⟩
  rw [rt_none]
  refine r_tapeTo (k := k) (b := 21378 + 10752 * k) (by rw [e2]; exact hM) (by omega) rfl hk (fun s2 g2 g1 g189 go gt g3 g4 => ?_)
  have hb1 := hB.1.1
  have tO : ∀ i, i ≠ 187 → i ≠ 189 → s2.1 i = s.1 i := fun i h1 h2 => (g1 i h1 h2).trans (e1 i h1)
  have tA : ∀ j, ¬ (21378 + 10752 * k ≤ j ∧ j < 21378 + 10752 * k + 10752) → s2.1 187 j = s.1 187 j := fun j hj => by rw [go j (by omega), e3, if_neg (by omega)]
  have tB : ∀ j, j < 10689 → s2.1 187 (21378 + 10752 * k + j) = s.1 187 j := fun j hj => by
    rw [go _ (by omega), e3, if_pos (by omega), show 0 + (21378 + 10752 * k + j - (21378 + 10752 * k)) = j by omega]
  have t2 : s2.2 = s.2 := g2.trans e2
  refine kk s2 ⟨by rw [t2]; exact hM, rmR_off hGD hr hB (fun j _ _ => tA j (by omega)), ⟨by rw [tO 186 (by omega) (by omega)]; exact p1, fun j hj => by rw [tO 188 (by omega) (by omega)]; exact p2 j hj, by rw [tO 186 (by omega) (by omega)]; exact p3⟩, fun j hj => ?_⟩ (fun i hi => ⟨tO i (by omega) (by omega), by rw [t2]⟩)
  unfold ll_up
  by_cases e : j = k
  · subst e
    rw [if_pos rfl]
    simp only
    refine ⟨by rw [g189, if_pos rfl], ?_, fun q hq => ?_, ?_, ?_⟩
    · obtain ⟨r1, r2, r3, r4⟩ := hr
      obtain ⟨-, d0, d1, d2, d3⟩ := hB
      have n0 := (hGD _ d0).1
      have n1 := (hGD _ d1).1
      obtain ⟨b1, b2, b3⟩ := d3
      refine ⟨⟨?_, fun q hq => ?_⟩, ⟨?_, fun q hq => ?_⟩, fun q hq => ⟨?_, fun z hz => ?_⟩, ?_⟩
      · have := tB 0 (by omega)
        rw [Nat.add_zero] at this
        rw [this]; exact r1.1
      · rw [show 21378 + 10752 * j + 1 + q = 21378 + 10752 * j + (1 + q) by omega, tB _ (by omega)]
        have := r1.2 q hq; rw [show 0 + 1 + q = 1 + q by omega] at this; exact this
      · rw [tB 31 (by omega)]; exact r2.1
      · rw [show 21378 + 10752 * j + 31 + 1 + q = 21378 + 10752 * j + (32 + q) by omega, tB _ (by omega)]
        have := r2.2 q hq; rw [show 0 + 31 + 1 + q = 32 + q by omega] at this; exact this
      · rw [show 21378 + 10752 * j + 62 + 31 * q = 21378 + 10752 * j + (62 + 31 * q) by omega, tB _ (by omega)]
        have := (r3 q hq).1; rw [show 0 + 62 + 31 * q = 62 + 31 * q by omega] at this; exact this
      · have nq := (hGD _ (d2 q hq)).1
        rw [show 21378 + 10752 * j + 62 + 31 * q + 1 + z = 21378 + 10752 * j + (62 + 31 * q + 1 + z) by omega, tB _ (by omega)]
        have := (r3 q hq).2 z hz; rw [show 0 + 62 + 31 * q + 1 + z = 62 + 31 * q + 1 + z by omega] at this; exact this
      · obtain ⟨l1, l4, l5, l6, l7, l9, l3, l11⟩ := r4
        simp only [Nat.zero_add] at l1 l4 l5 l6 l7 l9 l3
        refine ⟨by rw [tB 186 (by omega)]; exact l1, fun i hi => ?_, fun i hi => ?_, fun i hi => ?_, fun i hi => ?_, fun i hi z hz => ?_, by rw [tB 10387 (by omega)]; exact l3, ?_⟩
        · rw [show 21378 + 10752 * j + 187 + i = 21378 + 10752 * j + (187 + i) by omega, tB _ (by omega)]; exact l4 i hi
        · rw [show 21378 + 10752 * j + 487 + i = 21378 + 10752 * j + (487 + i) by omega, tB _ (by omega)]; exact l5 i hi
        · rw [show 21378 + 10752 * j + 787 + i = 21378 + 10752 * j + (787 + i) by omega, tB _ (by omega)]; exact l6 i hi
        · rw [show 21378 + 10752 * j + 1087 + i = 21378 + 10752 * j + (1087 + i) by omega, tB _ (by omega)]; exact l7 i hi
        · have := b2 i hi
          rw [show 21378 + 10752 * j + 1387 + 30 * i + z = 21378 + 10752 * j + (1387 + 30 * i + z) by omega, tB _ (by omega)]; exact l9 i hi z hz
        · cases hx : R.2.2.2.2.2.2.2.2.2 with
          | none =>
            rw [hx] at l11
            unfold apR at l11 ⊢
            simp only [Nat.zero_add] at l11 ⊢
            rw [tB 10388 (by omega)]; exact l11
          | some y =>
            rw [hx] at l11
            have := b3 y hx
            unfold apR at l11 ⊢
            simp only [Nat.zero_add] at l11 ⊢
            refine ⟨by rw [tB 10388 (by omega)]; exact l11.1, fun z hz => ?_⟩
            rw [show 21378 + 10752 * j + 10389 + z = 21378 + 10752 * j + (10389 + z) by omega, tB _ (by omega)]; exact l11.2 z hz
    · rw [gt q (by omega), e1 188 (by omega)]; exact p2 q hq
    · rw [g3, e1 186 (by omega)]; exact p1
    · rw [g4, e1 186 (by omega)]; exact p3
  · rw [if_neg e]
    have := q3 j hj
    cases hIj : I j with
    | none => rw [hIj] at this; simp only at this ⊢; rw [g189, if_neg e, e1 189 (by omega)]; exact this
    | some R' =>
      rw [hIj] at this
      simp only at this ⊢
      have hb := hI j R' hj hIj
      have ht : R'.1.1 ≤ 60 := hb.1.1
      rw [g189, if_neg e, e1 189 (by omega), tA _ (by omega), tA _ (by omega)]
      refine ⟨this.1, rmR_off hGD this.2.1 hb (fun q _ _ => tA q (by omega)), fun q hq => ?_, this.2.2.2⟩
      rw [tA _ (by omega)]; exact this.2.2.1 q hq
theorem r_image_no {s : sT} {R : rmT} {I : Nat → Option rmT} (hR : simR s R I) {a : Int32} (h : ∀ k, k < 2 → ¬ a = nI k) : doR (yY L xs) (D + 1) 229 [.ref 186, .int a, .null, .null] s R I (some 0) R I := by
  intro K kk
  refine b_229_0 (m_isIn1 (fun i' hi' e => absurd e (h i' hi')) (fun _ => ?_))
  rw [rt_some]
  refine b_229_6 ?_
  rw [if_neg (by decide)]
  exact kk s hR (fun i _ => ⟨rfl, rfl⟩)
theorem pr_image (hGD : ∀ D, GD D → sdB D) (a1 : Int32) : pairOK (yY L xs) (Sim GD) (D + 4) 136 229 [.ref 0, .int a1] [.ref 186, .int a1, .null, .null] true := by
  refine pair_of fun s R I hC hR hB hI => ?_
  rcases ex_or 2 a1 with ⟨k, hk, rfl⟩ | h1
  · refine ⟨some 1, R, ll_up I k (some R), rfl, hB, fun j R'' hj e => ?_, c_image hGD hC hB hk, fun _ hR1 => r_image (D := D + 3) hGD hR1 hB hI hk⟩
    unfold ll_up at e
    by_cases ej : j = k
    · rw [if_pos ej] at e; cases e; exact hB
    · rw [if_neg ej] at e; exact hI j R'' hj e
  · exact ⟨some 0, R, I, rfl, hB, hI, c_image_no (D := D + 3) hC h1, fun _ hR1 => r_image_no (D := D + 3) hR1 h1⟩
/-- the tape comes back -/
theorem r_tapeFrom {d : Nat} {s : sT} {K : Option Int32 → sT → Prop} (hM : rM s.2) {b : Nat} {x1 : Int32} (hb : b + 10752 ≤ 42882)
    (h : ∀ s' : sT, s'.2 = s.2 → (∀ i, i ≠ 186 → i ≠ 188 → s'.1 i = s.1 i) → (∀ j, j < 60 → s'.1 188 j = s.1 187 (b + 10689 + j)) → s'.1 186 3 = s.1 187 (b + 10749) → s'.1 186 4 = s.1 187 (b + 10750) → K (some 1) s') : tT (yY L xs) (d + 1) 230 39 [.ref 186, .int x1, .int (nI b), .null] [] s K := by
  have loop : ∀ m q (s1 : sT), m + q = 60 → s1.2 = s.2 → (∀ i, i ≠ 188 → s1.1 i = s.1 i) → (∀ j, j < q → s1.1 188 j = s.1 187 (b + 10689 + j)) → tT (yY L xs) (d + 1) 230 41 [.ref 186, .int x1, .int (nI b), .int (nI q)] [] s1 K := by
    intro m
    induction m with
    | zero =>
      intro q s1 hq e2 e1 et
      have hM1 : rM s1.2 := by rw [e2]; exact hM
      refine b_230_41 ?_
      rw [if_pos (by rw [nI_lit 60, nJ_le (by omega) (by omega)]; omega)]
      have a1 : nI b + 10689 + 60 = nI (b + 10749) := by rw [nI_lit 10689, nI_lit 60, nJ_add, nJ_add]
      have a2 : nI b + 10689 + 60 + 1 = nI (b + 10750) := by rw [a1, nI_lit 1, nJ_add]
      rw [a2, a1, nI_cl (by omega), nI_cl (by omega)]
      refine ⟨187, ⟨so_186, rm_186_0 hM1⟩, 42882, ⟨sa_187, inR_nI (by omega) (by omega)⟩, so_186, 187, ⟨so_186, rm_186_0 hM1⟩, 42882, ⟨sa_187, inR_nI (by omega) (by omega)⟩, so_186, ?_⟩
      refine h _ e2 (fun i h1 h2 => ?_) (fun j hj => ?_) ?_ ?_
      · rw [← e1 i h2]
        funext j
        rw [pV_1, if_neg (by omega), pV_1, if_neg (by omega)]
      · rw [pV_1, if_neg (by omega), pV_1, if_neg (by omega)]; exact et j (by omega)
      · rw [pV_1, if_neg (by omega), pV_1, if_pos ⟨rfl, rfl⟩, e1 187 (by omega)]
      · rw [pV_1, if_pos ⟨rfl, rfl⟩, pV_1, if_neg (by omega), e1 187 (by omega)]
    | succ m ih =>
      intro q s1 hq e2 e1 et
      have hM1 : rM s1.2 := by rw [e2]; exact hM
      refine b_230_41 ?_
      rw [if_neg (by rw [nI_lit 60, nJ_le (by omega) (by omega)]; omega)]
      have a1 : nI b + 10689 + nI q = nI (b + 10689 + q) := by rw [nI_lit 10689, nJ_add, nJ_add]
      rw [a1, nI_cl (by omega), nI_cl (by omega)]
      refine ⟨188, ⟨so_186, rm_186_1 hM1⟩, 187, ⟨so_186, rm_186_0 hM1⟩, 42882, ⟨sa_187, inR_nI (by omega) (by omega)⟩, 60, ⟨sa_188, inR_nI (by omega) (by omega)⟩, ?_⟩
      have := ih (q + 1) (pV s1 188 q (s1.1 187 (b + 10689 + q))) (by omega) e2 (fun i hi => by rw [← e1 i hi]; funext j; rw [pV_1, if_neg (by omega)]) (fun j hj => ?_)
      · rw [nI_succ] at this; exact this
      · rw [pV_1]
        by_cases e : j = q
        · subst e; rw [if_pos ⟨rfl, rfl⟩, e1 187 (by omega)]
        · rw [if_neg (by omega)]; exact et j (by omega)
  exact b_230_39 (loop 60 0 s (by omega) rfl (fun _ _ => rfl) (fun j hj => absurd hj (Nat.not_lt_zero j)))
/-- a room of the reference at another place -/
theorem rmR_move {a a' : Nat → Int32} {b b' : Nat} {R : rmT} (hGD : ∀ D, GD D → sdB D) (h : rmR a b R) (hB : rmB GD R) (he : ∀ j, j < 10689 → a' (b' + j) = a (b + j)) : rmR a' b' R := by
  obtain ⟨r1, r2, r3, r4⟩ := h
  obtain ⟨-, d0, d1, d2, d3⟩ := hB
  have n0 := (hGD _ d0).1
  have n1 := (hGD _ d1).1
  obtain ⟨b1, b2, b3⟩ := d3
  refine ⟨⟨?_, fun q hq => ?_⟩, ⟨?_, fun q hq => ?_⟩, fun q hq => ⟨?_, fun z hz => ?_⟩, ?_⟩
  · have := he 0 (by omega); rw [Nat.add_zero, Nat.add_zero] at this; rw [this]; exact r1.1
  · rw [Nat.add_assoc, he _ (by omega), ← Nat.add_assoc]; exact r1.2 q hq
  · rw [he _ (by omega)]; exact r2.1
  · rw [Nat.add_assoc, Nat.add_assoc, he _ (by omega), ← Nat.add_assoc, ← Nat.add_assoc]; exact r2.2 q hq
  · rw [Nat.add_assoc, he _ (by omega), ← Nat.add_assoc]; exact (r3 q hq).1
  · have nq := (hGD _ (d2 q hq)).1
    rw [show b' + 62 + 31 * q + 1 + z = b' + (62 + 31 * q + 1 + z) by omega, he _ (by omega), show b + (62 + 31 * q + 1 + z) = b + 62 + 31 * q + 1 + z by omega]; exact (r3 q hq).2 z hz
  · obtain ⟨l1, l4, l5, l6, l7, l9, l3, l11⟩ := r4
    refine ⟨by rw [he _ (by omega)]; exact l1, fun i hi => ?_, fun i hi => ?_, fun i hi => ?_, fun i hi => ?_, fun i hi z hz => ?_, by rw [he _ (by omega)]; exact l3, ?_⟩
    · rw [Nat.add_assoc, he _ (by omega), ← Nat.add_assoc]; exact l4 i hi
    · rw [Nat.add_assoc, he _ (by omega), ← Nat.add_assoc]; exact l5 i hi
    · rw [Nat.add_assoc, he _ (by omega), ← Nat.add_assoc]; exact l6 i hi
    · rw [Nat.add_assoc, he _ (by omega), ← Nat.add_assoc]; exact l7 i hi
    · have := b2 i hi
      rw [show b' + 1387 + 30 * i + z = b' + (1387 + 30 * i + z) by omega, he _ (by omega), show b + (1387 + 30 * i + z) = b + 1387 + 30 * i + z by omega]; exact l9 i hi z hz
    · cases hx : R.2.2.2.2.2.2.2.2.2 with
      | none =>
        rw [hx] at l11
        unfold apR at l11 ⊢
        simp only at l11 ⊢
        rw [he _ (by omega)]; exact l11
      | some y =>
        rw [hx] at l11
        have := b3 y hx
        unfold apR at l11 ⊢
        simp only at l11 ⊢
        refine ⟨by rw [he _ (by omega)]; exact l11.1, fun z hz => ?_⟩
        rw [Nat.add_assoc, he _ (by omega), ← Nat.add_assoc]; exact l11.2 z hz
theorem r_again (hGD : ∀ D, GD D → sdB D) {s : sT} {R : rmT} {I : Nat → Option rmT} (hR : simR s R I) (hI : ∀ k R', k < 2 → I k = some R' → rmB GD R') {R' : rmT} {k : Nat} (hk : k < 2) (hIk : I k = some R') : doR (yY L xs) (D + 1) 230 [.ref 186, .int (nI k), .null, .null] s R I (some 1) R' I := by
  intro K kk
  obtain ⟨hM, hr, -, q3⟩ := hR
  have hi := q3 k hk
  rw [hIk] at hi
  simp only at hi
  have hB := hI k R' hk hIk
  have hb1 := hB.1.1
  refine b_230_0 (m_isIn1 (fun i' hi' e => ?_) (fun h => absurd rfl (h k hk)))
  rw [rt_some]
  refine b_230_6 ?_
  rw [if_neg (by decide)]
  refine ⟨189, ⟨so_186, rm_186_2 hM⟩, 2, ⟨sa_189, inR_nI hk (by omega)⟩, ?_⟩
  rw [nI_cl (by omega), hi.1, if_pos (by decide)]
  have a0 : (21378 : Int32) + 10752 * nI k = nI (21378 + 10752 * k) := by rw [nI_lit 21378, nI_lit 10752, nJ_mul, nJ_add]
  rw [a0]
  refine ⟨so_186, r_copies (p := 21378 + 10752 * k) (q := 0) (n := 10689) hM (by omega) (by omega) (by omega) (fun s1 e2 e1 e3 => ?_)⟩
  rw [rt_none]
  refine r_tapeFrom (b := 21378 + 10752 * k) (by rw [e2]; exact hM) (by omega) (fun s2 g2 g1 gt g3 g4 => ?_)
  have t2 : s2.2 = s.2 := g2.trans e2
  have tO : ∀ i, i ≠ 186 → i ≠ 187 → i ≠ 188 → s2.1 i = s.1 i := fun i h1 h2 h3 => (g1 i h1 h3).trans (e1 i h2)
  have tA : ∀ j, 10689 ≤ j → s2.1 187 j = s.1 187 j := fun j hj => by rw [g1 187 (by omega) (by omega), e3, if_neg (by omega)]
  refine kk s2 ⟨by rw [t2]; exact hM, ?_, ⟨?_, fun j hj => ?_, ?_⟩, fun j hj => ?_⟩ (fun i hi => ⟨tO i (by omega) (by omega) (by omega), by rw [t2]⟩)
  · refine rmR_move hGD hi.2.1 hB (fun j hj => ?_)
    rw [g1 187 (by omega) (by omega), e3, if_pos (by omega), show 0 + j - 0 = j by omega]
  · rw [g3, e3, if_neg (by omega)]; exact hi.2.2.2.1
  · rw [gt j (by omega), e3, if_neg (by omega)]; exact hi.2.2.1 j hj
  · rw [g4, e3, if_neg (by omega)]; exact hi.2.2.2.2
  · have := q3 j hj
    cases hIj : I j with
    | none => rw [hIj] at this; simp only at this ⊢; rw [tO 189 (by omega) (by omega) (by omega)]; exact this
    | some R'' =>
      rw [hIj] at this
      simp only at this ⊢
      have hb := hI j R'' hj hIj
      have ht : R''.1.1 ≤ 60 := hb.1.1
      rw [tO 189 (by omega) (by omega) (by omega), tA _ (by omega), tA _ (by omega)]
      refine ⟨this.1, rmR_off hGD this.2.1 hb (fun q _ _ => tA q (by omega)), fun q hq => ?_, this.2.2.2⟩
      rw [tA _ (by omega)]; exact this.2.2.1 q hq
theorem r_again_no {s : sT} {R : rmT} {I : Nat → Option rmT} (hR : simR s R I) {a : Int32} (h : ∀ k, k < 2 → a = nI k → I k = none) : doR (yY L xs) (D + 1) 230 [.ref 186, .int a, .null, .null] s R I (some 0) R I := by
  intro K kk
  have k0 := kk s hR (fun i _ => ⟨rfl, rfl⟩)
  have hM := hR.1
  refine b_230_0 (m_isIn1 (fun n hn e => ?_) (fun _ => ?_)) <;> rw [rt_some]
  · refine b_230_6 ?_
    subst e
    rw [if_neg (by decide)]
    have := hR.2.2.2 n hn
    rw [h n hn rfl] at this
    refine ⟨189, ⟨so_186, rm_186_2 hM⟩, 2, ⟨sa_189, inR_nI hn (by omega)⟩, ?_⟩
    rw [nI_cl (by omega), this, if_neg (by decide)]
    exact k0
  · refine b_230_6 ?_
    rw [if_pos rfl]
    exact k0
theorem pr_again (hGD : ∀ D, GD D → sdB D) (a1 : Int32) : pairOK (yY L xs) (Sim GD) (D + 4) 137 230 [.ref 0, .int a1] [.ref 186, .int a1, .null, .null] true := by
  refine pair_of fun s R I hC hR hB hI => ?_
  by_cases h : ∃ k R', k < 2 ∧ a1 = nI k ∧ I k = some R'
  · obtain ⟨k, R', hk, rfl, hIk⟩ := h
    exact ⟨some 1, R', I, rfl, hI k R' hk hIk, hI, c_again hGD hC hk hIk (hI k R' hk hIk), fun _ hR1 => r_again (D := D + 3) hGD hR1 hI hk hIk⟩
  · have hn : ∀ k, k < 2 → a1 = nI k → I k = none := fun k hk e => by
      cases hIk : I k with
      | none => rfl
      | some R' => exact absurd ⟨k, R', hk, e, hIk⟩ h
    exact ⟨some 0, R, I, rfl, hB, hI, c_again_no (D := D + 3) hC hn, fun _ hR1 => r_again_no (D := D + 3) hR1 hn⟩
end H7
