/-! THE SEARCH, the whole run by the class; what comes out as lines -/
theorem lnH_B {n0 : Nat} {C : List cmT} {D : List dnT} {ap : Option txT} (h : cI n0 C D) (ha : ∀ q, ap = some q → q.1 ≤ 300) : lnB (lnH C D ap) := ⟨h.1, fun i _ => h.2.2.2 i, ha⟩
theorem wdO_B {n0 : Nat} {v : Int32 × List cmT × List dnT} (h : cI n0 v.2.1 v.2.2) : ∀ q, wdO v = some q → q.1 ≤ 300 := fun q e => by
  unfold wdO at e
  split at e
  · cases e
    show (wdF _ _ _).length ≤ 300
    rw [wd_len]
    by_cases hl : v.2.2.length < v.2.1.length
    · have hi := List.getElem?_eq_getElem hl
      rw [getD_some hi]
      have := (h.2.2.1 _ _ hi).2.1
      have := h.1
      omega
    · rw [List.getD_eq_getElem?_getD, List.getElem?_eq_none (by omega)]
      exact Nat.zero_le _
  · cases e
theorem lnR_of {s : sT} {b : Nat} {C : List cmT} {D : List dnT} {ap : Option txT} (h : sr s b C D) (ha : apR (s.1 187) b ap) : lnR (s.1 187) b (lnH C D ap) := by
  obtain ⟨h1, h2, h3, h4⟩ := h
  refine ⟨h1, fun i hi => ?_, fun i hi => ?_, fun i hi => (h3 i hi).1, fun i hi => (h3 i hi).2.1, fun i hi j hj => ?_, h4, ha⟩
  · have hc := List.getElem?_eq_getElem (show i < C.length from hi)
    show _ = nI (C.getD i cm0).1
    rw [getD_some hc]; exact (h2 i _ hc).1
  · have hc := List.getElem?_eq_getElem (show i < C.length from hi)
    show _ = (C.getD i cm0).2.1
    rw [getD_some hc]; exact (h2 i _ hc).2.1
  · have hc := List.getElem?_eq_getElem (show j < (dg D i).2.length from hj)
    show _ = nI ((dg D i).2.getD j 0)
    rw [getD_some hc]; exact (h3 i hi).2.2 j _ hc
theorem lnC_of {s : sT} {l n0 : Nat} {C : List cmT} {D : List dnT} {ap : Option txT} (h : sc s l n0 C D) (h7 : ∃ q, q ≤ 300 ∧ s.1 (l + 7) 1 = nI q) (ha : apC s.1 l ap) : lnC s.1 l (lnH C D ap) := by
  obtain ⟨⟨m8, m9, m10⟩, hc, he, -, -⟩ := h
  refine ⟨⟨m8, m9, m10⟩, fun i hi => ?_, fun i hi => ?_, fun i hi => (he i hi).1, fun i hi => (he i hi).2.1, fun i hi hp => (he i hi).2.2.1 hp, fun i hi j hj => ?_, h7, ha⟩
  · have hy := List.getElem?_eq_getElem (show i < C.length from hi)
    show _ = nI (C.getD i cm0).1
    rw [getD_some hy]; exact (hc i _ hy).1
  · have hy := List.getElem?_eq_getElem (show i < C.length from hi)
    show _ = (C.getD i cm0).2.1
    rw [getD_some hy]; exact (hc i _ hy).2.1
  · have hy := List.getElem?_eq_getElem (show j < (dg D i).2.length from hj)
    show _ = nI ((dg D i).2.getD j 0)
    rw [getD_some hy]; exact (he i hi).2.2.2 j _ hy
theorem rP_47 {ρ ρ' : Nat → Nat → Option Nat} (h : rP ρ) (hρ : ∀ i k, ¬ (i = 47 ∧ 7 ≤ k) → ρ' i k = ρ i k) : rP ρ' := by
  unfold rP at h ⊢
  simp only [hρ, Nat.reduceEqDiff, false_and, not_false_eq_true, Nat.reduceLeDiff, and_false]
  exact h
section RU
variable {L : Nat} {xs : Nat → Int32} {d : Nat} {s : sT} {K : Option Int32 → sT → Prop} {X0 X1 : Cond} {l c0 c1 : Nat}
/-- the turns -/
theorem c_turns (hS0 : sK L xs s l c0 c1 X0 X1) {v : Int32 × List cmT × List dnT} (hK : ∀ s', fC l s s' → cI (tms X0).length v.2.1 v.2.2 → lnC s'.1 l (lnH v.2.1 v.2.2 (wdO v)) → K (some v.1) s') {u1 u2 u3 : Nat} : ∀ q C D (s1 : sT), q + D.length = 300 → cI (tms X0).length C D → sc s1 l (tms X0).length C D → fC l s s1 → s1.1 l 11 = 0 → s1.1 (l + 7) 1 = 0 → srch (tms X0) (tms X1) q C D = v → tT (yY L xs) (d + 5) 32 86 [.ref 47, .ref u1, .ref u2, .ref u3, .int 0, .int (nI D.length)] [] s1 K := by
  have done : ∀ (w : Int32 × List cmT × List dnT) (s' : sT), w = v → fC l s s' → cI (tms X0).length w.2.1 w.2.2 → sc s' l (tms X0).length w.2.1 w.2.2 → (∃ q, q ≤ 300 ∧ s'.1 (l + 7) 1 = nI q) → apC s'.1 l (wdO w) → K (some w.1) s' := fun w s' e a1 a2 a3 a4 a5 => by
    subst e; exact hK s' a1 a2 (lnC_of a3 a4 a5)
  intro q
  induction q with
  | zero =>
    intro C D s1 hq hC hs hf h11 h7 hv
    refine b_32_86 ?_
    rw [if_pos (by rw [nI_lit 300, nJ_le (by omega) (by omega)]; omega)]
    exact done (0, C, D) s1 hv hf hC hs ⟨0, by decide, h7⟩ h11
  | succ q ih =>
    intro C D s1 hq hC hs hf h11 h7 hv
    have hl := hC.1
    have hDl := hC.2.1
    have hS := sK_fC hS0 hf
    refine b_32_86 ?_
    rw [if_neg (by rw [nI_lit 300, nJ_le (by omega) (by omega)]; omega)]
    refine ⟨l, ⟨so_47, hS.2.2.2.1.2.2⟩, hS.2.2.1.1, ?_⟩
    rw [hs.1.1]
    by_cases hle : C.length ≤ D.length
    · rw [if_pos (by rw [nJ_le (by omega) (by omega)]; omega)]
      refine done (0, C, D) s1 ?_ hf hC hs ⟨0, by decide, h7⟩ h11
      rw [← hv]
      conv => rhs; unfold srch
      rw [if_pos hle]
    rw [if_neg (by rw [nJ_le (by omega) (by omega)]; omega), if_neg (fun q => q rfl)]
    have hi := List.getElem?_eq_getElem (show D.length < C.length by omega)
    generalize C[D.length] = c at hi
    have hc1 := (hC.2.2.1 _ c hi).1
    have hy := List.getElem?_eq_getElem hc1
    generalize (tms X0)[c.1] = y at hy
    rw [srch_s _ _ _ _ _ hi hy] at hv
    -- an answer ends it
    have stop : ∀ (a : Int32) (s2 : sT) (x5 : Int32) (C' : List cmT) (D' : List dnT), ¬ a = 0 → fC l s s2 → s2.1 l 8 = nI C'.length → K (some a) s2 → tT (yY L xs) (d + 5) 32 86 [.ref 47, .ref u1, .ref u2, .ref u3, .int a, .int x5] [] s2 K := fun a s2 x5 C' D' hne f2 e8 k => by
      have hS2 := sK_fC hS0 f2
      refine b_32_86 ?_
      split
      · exact k
      · refine ⟨l, ⟨so_47, hS2.2.2.2.1.2.2⟩, hS2.2.2.1.1, ?_⟩
        split
        · exact k
        · first
          | exact k
          | (rw [if_pos hne]; exact k)
    refine ⟨so_47, c_turn (d := d) hS hs hC hi hy h11 h7 (fun hm s2 f2 hs2 => ?_) (fun hm hf' s2 f2 hs2 hap => ?_) (fun hm hf' C' P er s2 f2 hs2 hC2 => ?_) (fun hm hf' C' P er s2 f2 hs2 hC2 => ?_)⟩
    · rw [rt_some]
      rw [if_pos hm] at hv
      refine b_32_117 ?_
      have := ih C (D ++ [(0, [])]) s2 (by rw [List.length_append]; show q + (D.length + 1) = 300; omega) (cI_D hC (by omega) (by decide)) hs2 (fC_trans hf f2.1) (f2.2.1.trans h11) (by rw [f2.2.2]; exact h7) hv
      rw [List.length_append, show D.length + [((0 : Int32), ([] : List Nat))].length = D.length + 1 from rfl, nI_succ] at this
      exact this
    · rw [rt_some]
      rw [if_neg (by rw [hm]; decide), if_pos hf'] at hv
      refine b_32_117 (stop 1 s2 _ C D (by decide) (fC_trans hf f2) hs2.1.1 ?_)
      have ew : wdO (1, C, D) = some (txL (wdF C c.2.2.2.2 D.length)) := by
        unfold wdO
        rw [if_pos rfl, getD_some hi]
      refine done (1, C, D) s2 hv (fC_trans hf f2) hC hs2 ⟨c.2.2.2.2, ?_, ?_⟩ (by rw [ew]; exact hap)
      · have := (hC.2.2.1 _ c hi).2.1
        omega
      · have := hap.2.1
        rw [show (txL (wdF C c.2.2.2.2 D.length)).1 = (wdF C c.2.2.2.2 D.length).length from rfl, wd_len] at this
        exact this
    · rw [rt_some]
      rw [if_neg (by rw [hm]; decide), if_neg hf', er] at hv
      refine b_32_117 ?_
      have := ih C' (D ++ [(1, P)]) s2 (by rw [List.length_append]; show q + (D.length + 1) = 300; omega) hC2 hs2 (fC_trans hf f2.1) (f2.2.1.trans h11) (by rw [f2.2.2]; exact h7) hv
      rw [List.length_append, show D.length + [((1 : Int32), P)].length = D.length + 1 from rfl, nI_succ] at this
      exact this
    · rw [rt_some]
      rw [if_neg (by rw [hm]; decide), if_neg hf', er] at hv
      refine b_32_117 (stop 2 s2 _ C' D (by decide) (fC_trans hf f2.1) hs2.1.1 ?_)
      exact done (2, C', D) s2 hv (fC_trans hf f2.1) hC2 hs2 ⟨0, by decide, by rw [f2.2.2]; exact h7⟩ (f2.2.1.trans h11)
theorem c_run (hP : rP s.2) (hl : l = 37 ∨ l = 84) (x0 : sdX L xs s c0 X0) (x1 : sdX L xs s c1 X1) (hc0 : c0 = 19 ∨ c0 = 28 ∨ c0 = 65 ∨ c0 = 74) (hc1 : c1 = 19 ∨ c1 = 28 ∨ c1 = 65 ∨ c1 = 74)
    (hK : ∀ s', (∀ z, z ≠ 47 → s'.2 z = s.2 z) → rP s'.2 → (∀ z, ¬ (48 ≤ z ∧ z ≤ 54) → ¬ (l ≤ z ∧ z < l + 9) → s'.1 z = s.1 z) → cI (tms X0).length (srR X0 X1).2.1 (srR X0 X1).2.2 → lnC s'.1 l (lnH (srR X0 X1).2.1 (srR X0 X1).2.2 (wdO (srR X0 X1))) → K (some (srR X0 X1).1) s') : tT (yY L xs) (d + 5) 32 0 [.ref 47, .ref c0, .ref c1, .ref l, .null, .null] [] s K := by
  have h31 := sdX_31 x0
  have hn0 : 1 ≤ (tms X0).length := (List.getElem?_eq_some_iff.mp (tms_at0 x0.2.2.1 x0.2.2.2)).1
  have hk : lnK (yY L xs) s.2 l := by
    rcases hl with rfl | rfl
    · exact lk_37 hP
    · exact lk_84 hP
  refine b_32_0 ⟨so_47, so_47, so_47, l, ?_⟩
  have n2 : ∀ i k, ¬ (i = 47 ∧ 7 ≤ k) → (pR (pR (pR s 47 7 (some c0)) 47 8 (some c1)) 47 9 (some l)).2 i k = s.2 i k := fun i k h => by
    rw [pR_2, if_neg (by omega), pR_2, if_neg (by omega), pR_2, if_neg (by omega)]
  have q7 : (pR (pR (pR s 47 7 (some c0)) 47 8 (some c1)) 47 9 (some l)).2 47 7 = some c0 := by rw [pR_2, if_neg (by decide), pR_2, if_neg (by decide), pR_2, if_pos ⟨rfl, rfl⟩]
  have q8 : (pR (pR (pR s 47 7 (some c0)) 47 8 (some c1)) 47 9 (some l)).2 47 8 = some c1 := by rw [pR_2, if_neg (by decide), pR_2, if_pos ⟨rfl, rfl⟩]
  have q9 : (pR (pR (pR s 47 7 (some c0)) 47 8 (some c1)) 47 9 (some l)).2 47 9 = some l := by rw [pR_2, if_pos ⟨rfl, rfl⟩]
  have n1 : (pR (pR (pR s 47 7 (some c0)) 47 8 (some c1)) 47 9 (some l)).1 = s.1 := rfl
  generalize pR (pR (pR s 47 7 (some c0)) 47 8 (some c1)) 47 9 (some l) = s3 at n1 n2 q7 q8 q9 ⊢
  have hP3 : rP s3.2 := rP_47 hP n2
  have hk3 : lnK (yY L xs) s3.2 l := by
    rcases hl with rfl | rfl
    · exact lk_37 hP3
    · exact lk_84 hP3
  have n47 : ∀ z, z ≠ 47 → s3.2 z = s.2 z := fun z hz => funext fun k => n2 z k (fun q => hz q.1)
  obtain ⟨k1, ⟨r0, r1, r2, r3, r4, r5, r6⟩, a1, a2, a3, a4, a5, a6, a7⟩ := id hk3
  refine ⟨⟨so_47, q9⟩, k1, b_9_0 ⟨k1, k1, k1, k1, Or.inl rfl, l + 7, ⟨k1, r6⟩, a7.1, x_clear a7.1 ?_⟩⟩
  rw [rt_none]
  refine b_9_27 ?_
  rw [rt_none]
  have m2 : (pV (pV (pV (pV (pV s3 l 8 0) l 9 0) l 10 0) l 11 0) (l + 7) 1 0).2 = s3.2 := rfl
  have m8 : (pV (pV (pV (pV (pV s3 l 8 0) l 9 0) l 10 0) l 11 0) (l + 7) 1 0).1 l 8 = 0 := by rw [pV_1, if_neg (by omega), pV_1, if_neg (by omega), pV_1, if_neg (by omega), pV_1, if_neg (by omega), pV_1, if_pos ⟨rfl, rfl⟩]
  have m9 : (pV (pV (pV (pV (pV s3 l 8 0) l 9 0) l 10 0) l 11 0) (l + 7) 1 0).1 l 9 = 0 := by rw [pV_1, if_neg (by omega), pV_1, if_neg (by omega), pV_1, if_neg (by omega), pV_1, if_pos ⟨rfl, rfl⟩]
  have m10 : (pV (pV (pV (pV (pV s3 l 8 0) l 9 0) l 10 0) l 11 0) (l + 7) 1 0).1 l 10 = 0 := by rw [pV_1, if_neg (by omega), pV_1, if_neg (by omega), pV_1, if_pos ⟨rfl, rfl⟩]
  have m11 : (pV (pV (pV (pV (pV s3 l 8 0) l 9 0) l 10 0) l 11 0) (l + 7) 1 0).1 l 11 = 0 := by rw [pV_1, if_neg (by omega), pV_1, if_pos ⟨rfl, rfl⟩]
  have m7 : (pV (pV (pV (pV (pV s3 l 8 0) l 9 0) l 10 0) l 11 0) (l + 7) 1 0).1 (l + 7) 1 = 0 := by rw [pV_1, if_pos ⟨rfl, rfl⟩]
  have mo : ∀ z, z ≠ l → z ≠ l + 7 → (pV (pV (pV (pV (pV s3 l 8 0) l 9 0) l 10 0) l 11 0) (l + 7) 1 0).1 z = s.1 z := fun z a b => funext fun j => by
    rw [pV_1, if_neg (by omega), pV_1, if_neg (by omega), pV_1, if_neg (by omega), pV_1, if_neg (by omega), pV_1, if_neg (by omega), n1]
  generalize pV (pV (pV (pV (pV s3 l 8 0) l 9 0) l 10 0) l 11 0) (l + 7) 1 0 = s4 at m2 m8 m9 m10 m11 m7 mo ⊢
  -- what holds of the sides whatever cells of the search changed
  have side : ∀ (s' : sT) (c : Nat) (X : Cond), s'.2 = s3.2 → (∀ z, ¬ (48 ≤ z ∧ z ≤ 54) → ¬ (l ≤ z ∧ z < l + 9) → s'.1 z = s.1 z) → (c = 19 ∨ c = 28 ∨ c = 65 ∨ c = 74) → sdX L xs s c X → sdX L xs s' c X := fun s' c X e2 e1 hc hx => by
    obtain ⟨z1, z2, z3⟩ := hx
    refine ⟨?_, sdC_off z2 (fun i a b => e1 i (by omega) (by omega)), z3⟩
    obtain ⟨y1, y2, y3, y4, y5⟩ := z1
    refine ⟨y1, ?_, ⟨y3.1, y3.2.1, ?_, y3.2.2.2⟩, ⟨y4.1, y4.2.1, ?_, y4.2.2.2⟩, y5⟩
    · rw [e2, n47 c (by omega)]; exact y2
    · rw [e2, n47 (c + 1) (by omega)]; exact y3.2.2.1
    · rw [e2, n47 (c + 3) (by omega)]; exact y4.2.2.1
  have loop : ∀ q t (s5 : sT), q + t = (tms X0).length → s5.2 = s3.2 → (∀ z, z ≠ 51 → z ≠ 54 → s5.1 z = s4.1 z) → (∀ g, g < t → s5.1 51 g = -1) → (∀ t' y, t' < t → (tms X0)[t']? = some y → s5.1 54 t' = if y ∈ tms X1 then nI ((tms X1).idxOf y) else -1) → tT (yY L xs) (d + 5) 32 25 [.ref 47, .ref c0, .ref c1, .ref l, .int (nI t), .null] [] s5 K := by
    intro q
    induction q with
    | zero =>
      intro t s5 ht e2 eo e51 e54
      have e1 : ∀ z, ¬ (48 ≤ z ∧ z ≤ 54) → ¬ (l ≤ z ∧ z < l + 9) → s5.1 z = s.1 z := fun z a b => by rw [eo z (by omega) (by omega)]; exact mo z (by omega) (by omega)
      have hP5 : rP s5.2 := by rw [e2]; exact hP3
      have y0 := side s5 c0 X0 e2 e1 hc0 x0
      have y1 := side s5 c1 X1 e2 e1 hc1 x1
      have hS : sK L xs s5 l c0 c1 X0 X1 := ⟨hP5, hl, by rw [e2]; exact hk3, by rw [e2]; exact ⟨q7, q8, q9⟩, y0, y1, hc0, hc1, fun t' y hy => e54 t' y (by have := (List.getElem?_eq_some_iff.mp hy).1; omega) hy⟩
      have hC0 : cI (tms X0).length ([] : List cmT) ([] : List dnT) := ⟨Nat.zero_le _, Nat.le_refl _, (fun k l q => by cases q), (fun k => by rw [dg_out (Nat.zero_le _)]; exact Nat.zero_le _)⟩
      have hs0 : sc s5 l (tms X0).length [] [] := by
        refine ⟨⟨by rw [eo l (by omega) (by omega)]; exact m8, by rw [eo l (by omega) (by omega)]; exact m9, by rw [eo l (by omega) (by omega)]; exact m10⟩, (fun k c q => by cases q), (fun k hk => absurd hk (Nat.not_lt_zero _)), (fun g hg => e51 g (by omega)), (fun g m hg hm => absurd hm.1 (Nat.not_lt_zero _))⟩
      refine b_32_25 ⟨c0, ⟨so_47, by rw [e2]; exact q7⟩, y0.1.1, ?_⟩
      rw [sdX_6 y0, if_pos (by rw [nJ_le (by omega) (by omega)]; omega)]
      refine ⟨so_47, tt_mono (c_comeTo (d := d) (g := 0) (x := 0) (S := 1) (par := -1) (dp := 0) hS hs0 hC0 h31 hn0 (Or.inl ⟨rfl, rfl⟩) (fun q => by cases q) (fun _ s6 f6 g11 g7 _ _ hs6 => ?_)) (by omega) (fun _ _ q => q)⟩
      rw [rt_some]
      refine b_32_79 ?_
      refine c_turns (d := d) (v := srR X0 X1) hS (fun s' f' hCI hln => ?_) 300 [(0, 1, -1, 0, 0)] [] s6 rfl (cI_app hC0 (by decide) hn0 (Or.inl rfl)) hs6 f6 (by rw [g11, eo l (by omega) (by omega)]; exact m11) (by rw [g7, eo (l + 7) (by omega) (by omega)]; exact m7) rfl
      refine hK s' (fun z hz => by rw [f'.1, e2]; exact n47 z hz) (by rw [f'.1, e2]; exact hP3) (fun z a b => ?_) hCI hln
      rw [f'.2 z (by omega) b]
      exact e1 z a b
    | succ q ih =>
      intro t s5 ht e2 eo e51 e54
      have e1 : ∀ z, ¬ (48 ≤ z ∧ z ≤ 54) → ¬ (l ≤ z ∧ z < l + 9) → s5.1 z = s.1 z := fun z a b => by rw [eo z (by omega) (by omega)]; exact mo z (by omega) (by omega)
      have hP5 : rP s5.2 := by rw [e2]; exact hP3
      have y0 := side s5 c0 X0 e2 e1 hc0 x0
      refine b_32_25 ⟨c0, ⟨so_47, by rw [e2]; exact q7⟩, y0.1.1, ?_⟩
      rw [sdX_6 y0, if_neg (by rw [nJ_le (by omega) (by omega)]; omega)]
      have hin : inR (nI t) 31 := inR_nI (by omega) (by decide)
      have e1' : ∀ z, ¬ (48 ≤ z ∧ z ≤ 54) → ¬ (l ≤ z ∧ z < l + 9) → (pV s5 51 t (-1)).1 z = s.1 z := fun z a b => (funext fun j => by rw [pV_1, if_neg (by omega)]).trans (e1 z a b)
      have w0 := side (pV s5 51 t (-1)) c0 X0 e2 e1' hc0 x0
      have w1 := side (pV s5 51 t (-1)) c1 X1 e2 e1' hc1 x1
      refine ⟨51, ⟨so_47, rp_47_3 hP5⟩, 31, ⟨sa_51, hin⟩, 54, ⟨so_47, rp_47_6 hP5⟩, c1, ⟨so_47, by rw [pV_2, e2]; exact q8⟩, c0, ⟨so_47, by rw [pV_2, e2]; exact q7⟩, w1.1.1, ?_⟩
      rw [nI_cl (show t < 2147483648 by omega)]
      refine tt_mono (c_alikeTerm (d := d) w1 w0 (fun t' y e hy => ?_) (fun q => ?_)) (by omega) (fun _ _ q => q)
      · rw [rt_some]
        have htl := (List.getElem?_eq_some_iff.mp hy).1
        have : t' = t := ((nJ_eq (by omega) (by omega)).mp e).symm
        subst this
        refine b_32_64 ⟨31, ⟨sa_54, hin⟩, ?_⟩
        rw [nI_cl (show t' < 2147483648 by omega), ← nI_succ t']
        refine ih (t' + 1) _ (by omega) e2 (fun z a b => (funext fun j => by rw [pV_1, if_neg (by omega), pV_1, if_neg (by omega)]).trans (eo z a b)) (fun g hg => ?_) (fun u y' hu hy' => ?_)
        · rw [pV_1, if_neg (by omega), pV_1]
          by_cases eg : g = t'
          · rw [if_pos ⟨rfl, eg⟩]
          · rw [if_neg (by omega)]; exact e51 g (by omega)
        · rw [pV_1]
          by_cases eu : u = t'
          · subst eu
            rw [hy] at hy'; cases hy'
            rw [if_pos ⟨rfl, rfl⟩]
          · rw [if_neg (by omega), pV_1, if_neg (by omega)]; exact e54 u y' (by omega) hy'
      · rcases q with q | q
        · exact absurd q (nI_nn (by omega))
        · rw [nJ_le (by omega) (by omega)] at q; omega
  exact b_32_22 (loop _ 0 s4 rfl m2 (fun _ _ _ => rfl) (fun g hg => absurd hg (Nat.not_lt_zero _)) (fun t' y ht => absurd ht (Nat.not_lt_zero _)))
end RU
