/-! PAIRS OF CALLS on the lines: cut, alter, apart -/
def rmL (R : rmT) (N : lnT) : rmT := (R.1, R.2.1, R.2.2.1, R.2.2.2.1, R.2.2.2.2.1, N)
theorem simC_lines {s s' : sT} {R : rmT} {I : Nat → Option rmT} {N : lnT} (h : simC s R I) (h2 : s'.2 = s.2) (he : ∀ i, i < 186 → ¬ (84 ≤ i ∧ i < 94) → s'.1 i = s.1 i) (hN : lnC s'.1 84 N) : simC s' (rmL R N) I := by
  obtain ⟨q1, ⟨c0, c1, hc, r1, r2, r3, r4, r5, -⟩, q3⟩ := h
  refine ⟨by rw [h2]; exact q1, ⟨c0, c1, by rw [h2]; exact hc, ?_⟩, fun k hk => ?_⟩
  · have hcc := hc.2.2
    refine ⟨txC_off r1 (he _ (by omega) (by omega)) (he _ (by omega) (by omega)), by rw [he 61 (by decide) (by decide)]; exact r2, sdC_off r3 (fun i _ _ => he i (by omega) (by omega)), sdC_off r4 (fun i _ _ => he i (by omega) (by omega)), fun k hk => txC_off (r5 k hk) (he _ (by omega) (by omega)) (he _ (by omega) (by omega)), hN⟩
  · have := q3 k hk
    cases hI : I k with
    | none => rw [hI] at this; simp only at this ⊢; rw [he 185 (by decide) (by decide)]; exact this
    | some R' =>
      rw [hI] at this
      simp only at this ⊢
      rw [he 185 (by decide) (by decide)]
      exact ⟨this.1, rmC_off this.2 ⟨by omega, by omega⟩ ⟨by omega, by omega⟩ (fun i _ _ => he i (by omega) (by omega))⟩
theorem lnR_off {a a' : Nat → Int32} {b : Nat} {N : lnT} (h : lnR a b N) (hB : lnB N) (he : ∀ j, b + 186 ≤ j → j < b + 10689 → a' j = a j) : lnR a' b N := by
  obtain ⟨l1, l4, l5, l6, l7, l9, l3, l11⟩ := h
  obtain ⟨b1, b2, b3⟩ := hB
  refine ⟨by rw [he _ (by omega) (by omega)]; exact l1, fun i hi => by rw [he _ (by omega) (by omega)]; exact l4 i hi, fun i hi => by rw [he _ (by omega) (by omega)]; exact l5 i hi, fun i hi => by rw [he _ (by omega) (by omega)]; exact l6 i hi, fun i hi => by rw [he _ (by omega) (by omega)]; exact l7 i hi, fun i hi j hj => ?_, by rw [he _ (by omega) (by omega)]; exact l3, ?_⟩
  · have := b2 i hi
    rw [he _ (by omega) (by omega)]; exact l9 i hi j hj
  · cases hx : N.2.2.2.2 with
    | none => rw [hx] at l11; unfold apR at l11 ⊢; simp only at l11 ⊢; rw [he _ (by omega) (by omega)]; exact l11
    | some q =>
      rw [hx] at l11
      have := b3 q hx
      unfold apR at l11 ⊢
      simp only at l11 ⊢
      refine ⟨by rw [he _ (by omega) (by omega)]; exact l11.1, fun j hj => by rw [he _ (by omega) (by omega)]; exact l11.2 j hj⟩
theorem txR_off {a a' : Nat → Int32} {p : Nat} {x : txT} (h : txR a p x) (hn : x.1 ≤ 30) (he : ∀ j, p ≤ j → j < p + 31 → a' j = a j) : txR a' p x := by
  refine ⟨by rw [he p (by omega) (by omega)]; exact h.1, fun j hj => by rw [he _ (by omega) (by omega)]; exact h.2 j hj⟩
section H3
variable {GD : sdT → Prop} {L : Nat} {xs : Nat → Int32} {D : Nat}
theorem rmR_off {a a' : Nat → Int32} {b : Nat} {R : rmT} (hGD : ∀ D, GD D → sdB D) (h : rmR a b R) (hB : rmB GD R) (he : ∀ j, b ≤ j → j < b + 10689 → a' j = a j) : rmR a' b R := by
  obtain ⟨r1, r2, r3, r4⟩ := h
  obtain ⟨-, g0, g1, g2, g3⟩ := hB
  exact ⟨txR_off r1 (hGD _ g0).1 (fun j _ _ => he j (by omega) (by omega)), txR_off r2 (hGD _ g1).1 (fun j _ _ => he j (by omega) (by omega)), fun k hk => txR_off (r3 k hk) (hGD _ (g2 k hk)).1 (fun j _ _ => he j (by omega) (by omega)), lnR_off r4 g3 (fun j _ _ => he j (by omega) (by omega))⟩
theorem simR_lines {s s' : sT} {R : rmT} {I : Nat → Option rmT} {N : lnT} (hGD : ∀ D, GD D → sdB D) (h : simR s R I) (hB : rmB GD R) (hI : ∀ k R', k < 2 → I k = some R' → rmB GD R') (h2 : s'.2 = s.2) (he : ∀ i, 186 ≤ i → i ≠ 187 → s'.1 i = s.1 i) (ha : ∀ j, ¬ (186 ≤ j ∧ j < 10689) → s'.1 187 j = s.1 187 j) (hN : lnR (s'.1 187) 0 N) : simR s' (rmL R N) I := by
  obtain ⟨q1, ⟨r1, r2, r3, -⟩, q2, q3⟩ := h
  obtain ⟨-, g0, g1, g2, g3⟩ := hB
  refine ⟨by rw [h2]; exact q1, ⟨txR_off r1 (hGD _ g0).1 (fun j _ _ => ha j (by omega)), txR_off r2 (hGD _ g1).1 (fun j _ _ => ha j (by omega)), fun k hk => txR_off (r3 k hk) (hGD _ (g2 k hk)).1 (fun j _ _ => ha j (by omega)), hN⟩, ?_, fun k hk => ?_⟩
  · unfold tpR at q2 ⊢
    rw [he 186 (by decide) (by decide), he 188 (by decide) (by decide)]; exact q2
  · have := q3 k hk
    cases hIk : I k with
    | none => rw [hIk] at this; simp only at this ⊢; rw [he 189 (by decide) (by decide)]; exact this
    | some R' =>
      rw [hIk] at this
      simp only at this ⊢
      have hb := hI k R' hk hIk
      have ht : R'.1.1 ≤ 60 := hb.1.1
      rw [he 189 (by decide) (by decide), ha _ (by omega), ha _ (by omega)]
      refine ⟨this.1, rmR_off hGD this.2.1 hb (fun j _ _ => ha j (by omega)), fun j hj => ?_, this.2.2.2⟩
      rw [ha _ (by omega)]; exact this.2.2.1 j hj
/-- the lines without the last -/
def lnCut (N : lnT) : lnT := ((N.1.1 - 1, N.1.2), N.2)
theorem c_cut {s : sT} {R : rmT} {I : Nat → Option rmT} (hC : simC s R I) (hB : lnB R.2.2.2.2.2) : doC (yY L xs) (D + 3) 131 [.ref 0] s R I (some (if R.2.2.2.2.2.1.1 = 0 then -1 else nI (R.2.2.2.2.2.1.1 - 1))) (if R.2.2.2.2.2.1.1 = 0 then R else rmL R (lnCut R.2.2.2.2.2)) I := by
  intro K k
  have hC0 := hC
  obtain ⟨c0, c1, hc, hr⟩ := hC.2.1
  obtain ⟨⟨l1, l2, l3⟩, l4, l5, l6, l7, l8, l9, l10, l11⟩ := hr.2.2.2.2.2
  obtain ⟨b1, b2, b3⟩ := hB
  have hP := hC.1
  refine b_131_0 ⟨61, ⟨so_0, rp_0_8 hP⟩, 84, ⟨so_61, rp_61_3 hP⟩, so_84, b_17_0 ⟨so_84, ?_⟩⟩
  rw [l1]
  by_cases hm : R.2.2.2.2.2.1.1 = 0
  · rw [if_pos hm, if_pos hm] at k
    rw [if_neg (by rw [hm]; decide), rt_some]
    exact b_131_10 (k s hC0 (fun i _ => ⟨rfl, rfl⟩))
  · rw [if_neg hm, if_neg hm] at k
    have hj : R.2.2.2.2.2.1.1 - 1 < R.2.2.2.2.2.1.1 := by omega
    have hsum : psum R.2.2.2.2.2.2.1 (R.2.2.2.2.2.1.1 - 1) + R.2.2.2.2.2.2.1 (R.2.2.2.2.2.1.1 - 1) = psum R.2.2.2.2.2.2.1 R.2.2.2.2.2.1.1 := by
      have e : R.2.2.2.2.2.1.1 = R.2.2.2.2.2.1.1 - 1 + 1 := by omega
      conv => rhs; rw [e]
      rfl
    rw [if_pos (by rw [nI_lit 0, nJ_eq (by omega) (by omega)]; exact hm), nI_lit 1, nJ_sub (by omega)]
    refine ⟨so_84, so_84, so_84, so_84, ?_⟩
    rw [pV_1, if_pos ⟨rfl, rfl⟩]
    refine b_16_0 ⟨so_84, 89, ⟨so_84, rp_84_4 hP⟩, 300, ⟨sa_89, inR_nI (by omega) (by omega)⟩, so_84, 89, ⟨so_84, rp_84_4 hP⟩, 300, ⟨sa_89, inR_nI (by omega) (by omega)⟩, ?_⟩
    rw [rt_none]
    refine b_17_27 ⟨so_84, ?_⟩
    rw [rt_some]
    refine b_131_10 ?_
    simp only [pV_1, nI_cl (show R.2.2.2.2.2.1.1 - 1 < 2147483648 by omega), Nat.reduceEqDiff, false_and, true_and, and_false, if_false, if_true, and_self, reduceCtorEq]
    rw [l2, l7 _ hj, ← hsum, nJ_sub (by omega), Nat.add_sub_cancel]
    refine k _ (simC_lines hC0 rfl (fun i hi hni => ?_) ?_) (fun i hi => ⟨?_, rfl⟩)
    · funext j
      rw [pV_1, pV_1, pV_1, if_neg (by omega), if_neg (by omega), if_neg (by omega)]
    · refine ⟨⟨?_, ?_, ?_⟩, fun i hi => ?_, fun i hi => ?_, fun i hi => ?_, fun i hi => ?_, fun i hi hp => ?_, fun i hi j hj => ?_, ?_, ?_⟩
      · rw [pV_1, if_neg (by omega), pV_1, if_neg (by omega), pV_1, if_pos ⟨rfl, rfl⟩]; rfl
      · rw [pV_1, if_neg (by omega), pV_1, if_pos ⟨rfl, rfl⟩]; rfl
      · rw [pV_1, if_neg (by omega), pV_1, if_neg (by omega), pV_1, if_neg (by omega)]; exact l3
      · have hi : i < R.2.2.2.2.2.1.1 - 1 := hi
        rw [pV_1, if_neg (by omega), pV_1, if_neg (by omega), pV_1, if_neg (by omega)]; exact l4 i (by omega)
      · have hi : i < R.2.2.2.2.2.1.1 - 1 := hi
        rw [pV_1, if_neg (by omega), pV_1, if_neg (by omega), pV_1, if_neg (by omega)]; exact l5 i (by omega)
      · have hi : i < R.2.2.2.2.2.1.1 - 1 := hi
        rw [pV_1, if_neg (by omega), pV_1, if_neg (by omega), pV_1, if_neg (by omega)]; exact l6 i (by omega)
      · have hi : i < R.2.2.2.2.2.1.1 - 1 := hi
        rw [pV_1, if_neg (by omega), pV_1, if_neg (by omega), pV_1, if_neg (by omega)]; exact l7 i (by omega)
      · have hi : i < R.2.2.2.2.2.1.1 - 1 := hi
        rw [pV_1, if_neg (by omega), pV_1, if_neg (by omega), pV_1, if_neg (by omega)]; exact l8 i (by omega) hp
      · have hi : i < R.2.2.2.2.2.1.1 - 1 := hi
        rw [pV_1, if_neg (by omega), pV_1, if_neg (by omega), pV_1, if_neg (by omega)]; exact l9 i (by omega) j hj
      · obtain ⟨q, hq, hq2⟩ := l10
        exact ⟨q, hq, by rw [pV_1, if_neg (by omega), pV_1, if_neg (by omega), pV_1, if_neg (by omega)]; exact hq2⟩
      · show apC _ 84 R.2.2.2.2.2.2.2.2.2
        cases hx : R.2.2.2.2.2.2.2.2.2 with
        | none => rw [hx] at l11; unfold apC at l11 ⊢; simp only at l11 ⊢; rw [pV_1, if_neg (by omega), pV_1, if_neg (by omega), pV_1, if_neg (by omega)]; exact l11
        | some q =>
          rw [hx] at l11; unfold apC txC at l11 ⊢; simp only at l11 ⊢
          refine ⟨?_, ?_, fun j hj => ?_⟩
          · rw [pV_1, if_neg (by omega), pV_1, if_neg (by omega), pV_1, if_neg (by omega)]; exact l11.1
          · rw [pV_1, if_neg (by omega), pV_1, if_neg (by omega), pV_1, if_neg (by omega)]; exact l11.2.1
          · rw [pV_1, if_neg (by omega), pV_1, if_neg (by omega), pV_1, if_neg (by omega)]; exact l11.2.2 j hj
    · funext j
      rw [pV_1, pV_1, pV_1, if_neg (by omega), if_neg (by omega), if_neg (by omega)]
theorem r_cut (hGD : ∀ D, GD D → sdB D) {s : sT} {R : rmT} {I : Nat → Option rmT} (hR : simR s R I) (hB : rmB GD R) (hI : ∀ k R', k < 2 → I k = some R' → rmB GD R') : doR (yY L xs) D 200 [.ref 186] s R I (some (if R.2.2.2.2.2.1.1 = 0 then -1 else nI (R.2.2.2.2.2.1.1 - 1))) (if R.2.2.2.2.2.1.1 = 0 then R else rmL R (lnCut R.2.2.2.2.2)) I := by
  intro K k
  have hR0 := hR
  obtain ⟨hM, ⟨_, _, _, l1, l4, l5, l6, l7, l9, l3, l11⟩, -, -⟩ := hR
  obtain ⟨b1, b2, b3⟩ := hB.2.2.2.2
  have l1' := l1
  simp only [Nat.zero_add] at l1'
  refine b_200_0 ⟨187, ⟨so_186, rm_186_0 hM⟩, 42882, ⟨sa_187, inR_nI (k := 186) (by decide) (by decide)⟩, ?_⟩
  rw [nI_lit 186, nI_cl (by decide), l1']
  by_cases hm : R.2.2.2.2.2.1.1 = 0
  · rw [if_pos hm, if_pos hm] at k
    rw [if_neg (by rw [hm]; decide)]
    exact k s hR0 (fun i _ => ⟨rfl, rfl⟩)
  · rw [if_neg hm, if_neg hm] at k
    rw [if_pos (by rw [nI_lit 0, nJ_eq (by omega) (by omega)]; exact hm)]
    refine ⟨187, ⟨so_186, rm_186_0 hM⟩, 42882, ⟨sa_187, inR_nI (k := 186) (by decide) (by decide)⟩, 42882, ⟨sa_187, inR_nI (k := 186) (by decide) (by decide)⟩, 187, ⟨so_186, rm_186_0 hM⟩, 42882, ⟨sa_187, inR_nI (k := 186) (by decide) (by decide)⟩, ?_⟩
    rw [l1', nI_lit 1, nJ_sub (by omega), pV_1, if_pos ⟨rfl, rfl⟩]
    have hoff : ∀ j, j ≠ 186 → (pV s 187 186 (nI (R.2.2.2.2.2.1.1 - 1))).1 187 j = s.1 187 j := fun j hj => by rw [pV_1, if_neg (by omega)]
    refine k _ (simR_lines hGD hR0 hB hI rfl (fun i _ hi => by funext j; rw [pV_1, if_neg (by omega)]) (fun j hj => hoff j (by omega)) ?_) (fun i hi => ⟨by funext j; rw [pV_1, if_neg (by omega)], rfl⟩)
    refine ⟨by rw [pV_1, if_pos ⟨rfl, rfl⟩]; rfl, fun i hi => ?_, fun i hi => ?_, fun i hi => ?_, fun i hi => ?_, fun i hi j hj => ?_, ?_, ?_⟩
    · have hi : i < R.2.2.2.2.2.1.1 - 1 := hi
      rw [hoff _ (by omega)]; exact l4 i (by omega)
    · have hi : i < R.2.2.2.2.2.1.1 - 1 := hi
      rw [hoff _ (by omega)]; exact l5 i (by omega)
    · have hi : i < R.2.2.2.2.2.1.1 - 1 := hi
      rw [hoff _ (by omega)]; exact l6 i (by omega)
    · have hi : i < R.2.2.2.2.2.1.1 - 1 := hi
      rw [hoff _ (by omega)]; exact l7 i (by omega)
    · have hi : i < R.2.2.2.2.2.1.1 - 1 := hi
      rw [hoff _ (by omega)]; exact l9 i (by omega) j hj
    · rw [hoff _ (by omega)]; exact l3
    · show apR _ 0 R.2.2.2.2.2.2.2.2.2
      cases hx : R.2.2.2.2.2.2.2.2.2 with
      | none => rw [hx] at l11; unfold apR at l11 ⊢; simp only at l11 ⊢; rw [hoff _ (by omega)]; exact l11
      | some q =>
        rw [hx] at l11; unfold apR at l11 ⊢; simp only at l11 ⊢
        exact ⟨by rw [hoff _ (by omega)]; exact l11.1, fun j hj => by rw [hoff _ (by omega)]; exact l11.2 j hj⟩
theorem lnB_cut {N : lnT} (h : lnB N) : lnB (lnCut N) := ⟨by have := h.1; show N.1.1 - 1 ≤ 300; omega, fun i hi => h.2.1 i (by have hi : i < N.1.1 - 1 := hi; omega), h.2.2⟩
theorem rmB_L {R : rmT} {N : lnT} (h : rmB GD R) (hN : lnB N) : rmB GD (rmL R N) := ⟨h.1, h.2.1, h.2.2.1, h.2.2.2.1, hN⟩
theorem pr_cut (hGD : ∀ D, GD D → sdB D) : pairOK (yY L xs) (Sim GD) (D + 3) 131 200 [.ref 0] [.ref 186] true := by
  refine pair_of fun s R I hC hR hB hI => ⟨_, _, I, rfl, ?_, hI, c_cut hC hB.2.2.2.2, fun _ hR1 => r_cut hGD hR1 hB hI⟩
  split
  · exact hB
  · exact rmB_L hB (lnB_cut hB.2.2.2.2)
/-! alter -/
theorem psum_inj {f : Nat → Nat} {i i' j j' : Nat} (hj : j < f i) (hj' : j' < f i') (h : psum f i + j = psum f i' + j') : i = i' ∧ j = j' := by
  by_cases hlt : i < i'
  · have := psum_mono f (i := i + 1) (j := i') hlt
    have e : psum f (i + 1) = psum f i + f i := rfl
    omega
  · by_cases hgt : i' < i
    · have := psum_mono f (i := i' + 1) (j := i) hgt
      have e : psum f (i' + 1) = psum f i' + f i' := rfl
      omega
    · have : i = i' := by omega
      subst this
      exact ⟨rfl, by omega⟩
def lnG (N : lnT) (k : Nat) (x : Int32) : lnT := ((N.1.1, ll_up N.1.2.1 k x, N.1.2.2), N.2)
def lnS (N : lnT) (k : Nat) (x : Int32) : lnT := ((N.1.1, N.1.2.1, ll_up N.1.2.2.1 k x, N.1.2.2.2), N.2)
def lnU (N : lnT) (k : Nat) (x : Int32) : lnT := ((N.1.1, N.1.2.1, N.1.2.2.1, ll_up N.1.2.2.2 k x), N.2)
def lnQ (N : lnT) (k j : Nat) (x : Int32) : lnT := (N.1, N.2.1, ll_up N.2.2.1 k (ll_up (N.2.2.1 k) j x), N.2.2.2)
/-- one cell of the lines' rows is written -/
theorem lnC_put {v v' : Nat → Nat → Int32} {l c q : Nat} {x : Int32} {N N' : lnT} (h : lnC v l N) (hv : ∀ i j, v' i j = if i = c ∧ j = q then x else v i j)
    (hN : (c = l + 1 ∧ N' = lnG N q x) ∨ (c = l + 2 ∧ N' = lnS N q x) ∨ (c = l + 3 ∧ N' = lnU N q x) ∨ (∃ k j, c = l + 6 ∧ k < N.1.1 ∧ j < N.2.1 k ∧ q = psum N.2.1 k + j ∧ N' = lnQ N k j x)) : lnC v' l N' := by
  obtain ⟨⟨l1, l2, l3⟩, l4, l5, l6, l7, l8, l9, l10, l11⟩ := h
  have hap : ∀ (y : Option txT), (c = l + 1 ∨ c = l + 2 ∨ c = l + 3 ∨ c = l + 6) → apC v l y → apC v' l y := by
    intro y hcc hy
    cases y with
    | none => unfold apC at hy ⊢; simp only at hy ⊢; rw [hv, if_neg (by omega)]; exact hy
    | some z =>
      unfold apC txC at hy ⊢; simp only at hy ⊢
      exact ⟨by rw [hv, if_neg (by omega)]; exact hy.1, by rw [hv, if_neg (by omega)]; exact hy.2.1, fun j hj => by rw [hv, if_neg (by omega)]; exact hy.2.2 j hj⟩
  have h10 : (c = l + 1 ∨ c = l + 2 ∨ c = l + 3 ∨ c = l + 6) → ∃ q', q' ≤ 300 ∧ v' (l + 7) 1 = nI q' := by
    intro hcc
    obtain ⟨q', e1, e2⟩ := l10
    exact ⟨q', e1, by rw [hv, if_neg (by omega)]; exact e2⟩
  rcases hN with ⟨rfl, rfl⟩ | ⟨rfl, rfl⟩ | ⟨rfl, rfl⟩ | ⟨k, j0, rfl, hk, hj0, rfl, rfl⟩
  · refine ⟨⟨by rw [hv, if_neg (by omega)]; exact l1, by rw [hv, if_neg (by omega)]; exact l2, by rw [hv, if_neg (by omega)]; exact l3⟩, fun i hi => ?_, fun i hi => by rw [hv, if_neg (by omega)]; exact l5 i hi, fun i hi => by rw [hv, if_neg (by omega)]; exact l6 i hi, fun i hi => by rw [hv, if_neg (by omega)]; exact l7 i hi, fun i hi hp => by rw [hv, if_neg (by omega)]; exact l8 i hi hp, fun i hi j hj => by rw [hv, if_neg (by omega)]; exact l9 i hi j hj, h10 (by omega), hap _ (by omega) l11⟩
    rw [hv]
    show _ = ll_up N.1.2.1 q x i
    unfold ll_up
    by_cases e : i = q
    · rw [if_pos ⟨rfl, e⟩, if_pos e]
    · rw [if_neg (fun z => e z.2), if_neg e]; exact l4 i hi
  · refine ⟨⟨by rw [hv, if_neg (by omega)]; exact l1, by rw [hv, if_neg (by omega)]; exact l2, by rw [hv, if_neg (by omega)]; exact l3⟩, fun i hi => by rw [hv, if_neg (by omega)]; exact l4 i hi, fun i hi => ?_, fun i hi => by rw [hv, if_neg (by omega)]; exact l6 i hi, fun i hi => by rw [hv, if_neg (by omega)]; exact l7 i hi, fun i hi hp => by rw [hv, if_neg (by omega)]; exact l8 i hi hp, fun i hi j hj => by rw [hv, if_neg (by omega)]; exact l9 i hi j hj, h10 (by omega), hap _ (by omega) l11⟩
    rw [hv]
    show _ = ll_up N.1.2.2.1 q x i
    unfold ll_up
    by_cases e : i = q
    · rw [if_pos ⟨rfl, e⟩, if_pos e]
    · rw [if_neg (fun z => e z.2), if_neg e]; exact l5 i hi
  · refine ⟨⟨by rw [hv, if_neg (by omega)]; exact l1, by rw [hv, if_neg (by omega)]; exact l2, by rw [hv, if_neg (by omega)]; exact l3⟩, fun i hi => by rw [hv, if_neg (by omega)]; exact l4 i hi, fun i hi => by rw [hv, if_neg (by omega)]; exact l5 i hi, fun i hi => ?_, fun i hi => by rw [hv, if_neg (by omega)]; exact l7 i hi, fun i hi hp => by rw [hv, if_neg (by omega)]; exact l8 i hi hp, fun i hi j hj => by rw [hv, if_neg (by omega)]; exact l9 i hi j hj, h10 (by omega), hap _ (by omega) l11⟩
    rw [hv]
    show _ = ll_up N.1.2.2.2 q x i
    unfold ll_up
    by_cases e : i = q
    · rw [if_pos ⟨rfl, e⟩, if_pos e]
    · rw [if_neg (fun z => e z.2), if_neg e]; exact l6 i hi
  · refine ⟨⟨by rw [hv, if_neg (by omega)]; exact l1, by rw [hv, if_neg (by omega)]; exact l2, by rw [hv, if_neg (by omega)]; exact l3⟩, fun i hi => by rw [hv, if_neg (by omega)]; exact l4 i hi, fun i hi => by rw [hv, if_neg (by omega)]; exact l5 i hi, fun i hi => by rw [hv, if_neg (by omega)]; exact l6 i hi, fun i hi => by rw [hv, if_neg (by omega)]; exact l7 i hi, fun i hi hp => by rw [hv, if_neg (by omega)]; exact l8 i hi hp, fun i hi j hj => ?_, h10 (by omega), hap _ (by omega) l11⟩
    rw [hv]
    show _ = ll_up N.2.2.1 k (ll_up (N.2.2.1 k) j0 x) i j
    have hj' : j < N.2.1 i := hj
    have e0 : psum (lnQ N k j0 x).2.1 i = psum N.2.1 i := rfl
    rw [e0]
    unfold ll_up
    by_cases e : i = k
    · subst e
      rw [if_pos rfl]
      by_cases e2 : j = j0
      · subst e2; rw [if_pos ⟨rfl, rfl⟩, if_pos rfl]
      · rw [if_neg (by omega), if_neg e2]; exact l9 i hi j hj
    · rw [if_neg (fun z => e (psum_inj hj' hj0 z.2).1), if_neg e]; exact l9 i hi j hj
theorem lnR_put {a a' : Nat → Int32} {q : Nat} {x : Int32} {N N' : lnT} (h : lnR a 0 N) (hB : lnB N) (hv : ∀ j, a' j = if j = q then x else a j)
    (hN : (∃ k, k < N.1.1 ∧ q = 187 + k ∧ N' = lnG N k x) ∨ (∃ k, k < N.1.1 ∧ q = 487 + k ∧ N' = lnS N k x) ∨ (∃ k, k < N.1.1 ∧ q = 787 + k ∧ N' = lnU N k x) ∨ (∃ k j, k < N.1.1 ∧ j < N.2.1 k ∧ q = 1387 + 30 * k + j ∧ N' = lnQ N k j x)) : lnR a' 0 N' := by
  obtain ⟨l1, l4, l5, l6, l7, l9, l3, l11⟩ := h
  obtain ⟨b1, b2, b3⟩ := hB
  have hap : ∀ (y : Option txT), (∀ z, y = some z → z.1 ≤ 300) → q < 10387 → apR a 0 y → apR a' 0 y := by
    intro y hz hcc hy
    cases y with
    | none => unfold apR at hy ⊢; simp only at hy ⊢; rw [hv, if_neg (by omega)]; exact hy
    | some z =>
      have := hz z rfl
      unfold apR at hy ⊢; simp only at hy ⊢
      exact ⟨by rw [hv, if_neg (by omega)]; exact hy.1, fun j hj => by rw [hv, if_neg (by omega)]; exact hy.2 j hj⟩
  rcases hN with ⟨k, hk, rfl, rfl⟩ | ⟨k, hk, rfl, rfl⟩ | ⟨k, hk, rfl, rfl⟩ | ⟨k, j0, hk, hj0, rfl, rfl⟩
  · refine ⟨by rw [hv, if_neg (by omega)]; exact l1, fun i hi => ?_, fun i hi => by have hi : i < N.1.1 := hi; rw [hv, if_neg (by omega)]; exact l5 i hi, fun i hi => by have hi : i < N.1.1 := hi; rw [hv, if_neg (by omega)]; exact l6 i hi, fun i hi => by have hi : i < N.1.1 := hi; rw [hv, if_neg (by omega)]; exact l7 i hi, fun i hi j hj => by rw [hv, if_neg (by omega)]; exact l9 i hi j hj, by rw [hv, if_neg (by omega)]; exact l3, hap _ b3 (by omega) l11⟩
    have hi : i < N.1.1 := hi
    rw [hv]
    show _ = ll_up N.1.2.1 k x i
    unfold ll_up
    by_cases e : i = k
    · rw [if_pos (by omega), if_pos e]
    · rw [if_neg (by omega), if_neg e]; exact l4 i hi
  · refine ⟨by rw [hv, if_neg (by omega)]; exact l1, fun i hi => by have hi : i < N.1.1 := hi; rw [hv, if_neg (by omega)]; exact l4 i hi, fun i hi => ?_, fun i hi => by have hi : i < N.1.1 := hi; rw [hv, if_neg (by omega)]; exact l6 i hi, fun i hi => by have hi : i < N.1.1 := hi; rw [hv, if_neg (by omega)]; exact l7 i hi, fun i hi j hj => by rw [hv, if_neg (by omega)]; exact l9 i hi j hj, by rw [hv, if_neg (by omega)]; exact l3, hap _ b3 (by omega) l11⟩
    have hi : i < N.1.1 := hi
    rw [hv]
    show _ = ll_up N.1.2.2.1 k x i
    unfold ll_up
    by_cases e : i = k
    · rw [if_pos (by omega), if_pos e]
    · rw [if_neg (by omega), if_neg e]; exact l5 i hi
  · refine ⟨by rw [hv, if_neg (by omega)]; exact l1, fun i hi => by have hi : i < N.1.1 := hi; rw [hv, if_neg (by omega)]; exact l4 i hi, fun i hi => by have hi : i < N.1.1 := hi; rw [hv, if_neg (by omega)]; exact l5 i hi, fun i hi => ?_, fun i hi => by have hi : i < N.1.1 := hi; rw [hv, if_neg (by omega)]; exact l7 i hi, fun i hi j hj => by rw [hv, if_neg (by omega)]; exact l9 i hi j hj, by rw [hv, if_neg (by omega)]; exact l3, hap _ b3 (by omega) l11⟩
    have hi : i < N.1.1 := hi
    rw [hv]
    show _ = ll_up N.1.2.2.2 k x i
    unfold ll_up
    by_cases e : i = k
    · rw [if_pos (by omega), if_pos e]
    · rw [if_neg (by omega), if_neg e]; exact l6 i hi
  · have hb := b2 k hk
    refine ⟨by rw [hv, if_neg (by omega)]; exact l1, fun i hi => by have hi : i < N.1.1 := hi; rw [hv, if_neg (by omega)]; exact l4 i hi, fun i hi => by have hi : i < N.1.1 := hi; rw [hv, if_neg (by omega)]; exact l5 i hi, fun i hi => by have hi : i < N.1.1 := hi; rw [hv, if_neg (by omega)]; exact l6 i hi, fun i hi => by have hi : i < N.1.1 := hi; rw [hv, if_neg (by omega)]; exact l7 i hi, fun i hi j hj => ?_, by rw [hv, if_neg (by omega)]; exact l3, hap _ b3 (by omega) l11⟩
    have hi' : i < N.1.1 := hi
    have hj' : j < N.2.1 i := hj
    have hb2 := b2 i hi'
    rw [hv]
    show _ = ll_up N.2.2.1 k (ll_up (N.2.2.1 k) j0 x) i j
    unfold ll_up
    by_cases e : i = k
    · subst e
      rw [if_pos rfl]
      by_cases e2 : j = j0
      · subst e2; rw [if_pos (by omega), if_pos rfl]
      · rw [if_neg (by omega), if_neg e2]; exact l9 i hi j hj
    · rw [if_neg (by omega), if_neg e]; exact l9 i hi j hj
end H3
