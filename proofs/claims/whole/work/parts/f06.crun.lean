/-! THE SEARCH, by the class: turns, and the whole -/
section CU
variable {L : Nat} {xs : Nat → Int32} {d : Nat} {s : sT} {K : Option Int32 → sT → Prop} {X0 X1 : Cond} {l c0 c1 n0 : Nat} {C : List cmT} {D E : List dnT}
theorem sc_off {s' : sT} (h : sc s l n0 C E) (hl : l = 37 ∨ l = 84) (ho : ∀ z, z ≠ l → z ≠ l + 7 → z ≠ l + 8 → s'.1 z = s.1 z) (hj : ∀ j, j ≠ 11 → s'.1 l j = s.1 l j) : sc s' l n0 C E := by
  obtain ⟨⟨m8, m9, m10⟩, hc, he, hf, hla⟩ := h
  refine ⟨⟨by rw [hj 8 (by decide)]; exact m8, by rw [hj 9 (by decide)]; exact m9, by rw [hj 10 (by decide)]; exact m10⟩, fun k c hk => ?_, fun k hk => ?_, fun g hg => by rw [ho 51 (by omega) (by omega) (by omega)]; exact hf g hg, fun g m hg hm => by rw [ho 52 (by omega) (by omega) (by omega)]; exact hla g m hg hm⟩
  · rw [ho (l + 1) (by omega) (by omega) (by omega), ho (l + 2) (by omega) (by omega) (by omega), ho 48 (by omega) (by omega) (by omega), ho 49 (by omega) (by omega) (by omega), ho 50 (by omega) (by omega) (by omega), ho 53 (by omega) (by omega) (by omega)]
    exact hc k c hk
  · rw [ho (l + 3) (by omega) (by omega) (by omega), ho (l + 4) (by omega) (by omega) (by omega), ho (l + 5) (by omega) (by omega) (by omega), ho (l + 6) (by omega) (by omega) (by omega)]
    exact he k hk
theorem nI_sub1 (n : Nat) : nI (n + 1) - 1 = nI n := by rw [nI_lit 1, nJ_sub (by omega)]; rfl
theorem c_tell {i : Nat} {c : cmT} (hS : sK L xs s l c0 c1 X0 X1) (h : sc s l n0 C E) (hC : cI n0 C E) (hi : C[i]? = some c) (h7 : s.1 (l + 7) 1 = 0) (hK : ∀ s', fC l s s' → sc s' l n0 C E → apC s'.1 l (some (txL (wdF C c.2.2.2.2 i))) → K none s') : tT (yY L xs) (d + 1) 37 0 [.ref 47, .int (nI i), .null, .null, .null] [] s K := by
  obtain ⟨hP, hl, ⟨k1, ⟨r0, r1, r2, r3, r4, r5, r6⟩, a1, a2, a3, a4, a5, a6, a7⟩, ⟨q7, q8, q9⟩, -⟩ := hS
  have hlen := hC.1
  have hil := (List.getElem?_eq_some_iff.mp hi).1
  have hd := (hC.2.2.1 i c hi).2.1
  have g5 := (h.2.1 i c hi).2.2.2.2.1
  -- from the end of the word
  have back : ∀ n i' c' (Z : List Int32) (s1 : sT), (n = 0 ∨ (C[i']? = some c' ∧ c'.2.2.2.2 = n)) → n + Z.length = c.2.2.2.2 → wdF C c.2.2.2.2 i = wdF C n i' ++ Z → s1.2 = s.2 → (∀ z, z ≠ l → z ≠ l + 7 → z ≠ l + 8 → s1.1 z = s.1 z) → (∀ j, j ≠ 11 → s1.1 l j = s.1 l j) → s1.1 l 11 = 1 → s1.1 (l + 7) 1 = nI c.2.2.2.2 → (∀ j z, Z[j]? = some z → s1.1 (l + 8) (n + j) = z) → ∀ u : Int32, (n = 0 ∨ u = nI i') → tT (yY L xs) (d + 1) 37 51 [.ref 47, .int (nI i), .ref (l + 7), .int u, .int (nI n - 1)] [] s1 K := by
    intro n
    induction n with
    | zero =>
      intro i' c' Z s1 hl' hln ew f2 fo fj f11 f7 hZ u hu
      refine b_37_51 ?_
      rw [if_pos (by decide)]
      refine hK s1 ⟨f2, fun z a b => fo z (by omega) (by omega) (by omega)⟩ (sc_off h hl fo fj) ⟨f11, ?_, fun j hj => ?_⟩
      · show s1.1 (l + 7) 1 = nI (wdF C c.2.2.2.2 i).length
        rw [wd_len]; exact f7
      · have hj : j < (wdF C c.2.2.2.2 i).length := hj
        have hz := List.getElem?_eq_getElem hj
        rw [txL_at hz]
        generalize (wdF C c.2.2.2.2 i)[j] = z at hz
        rw [ew] at hz
        have := hZ j z hz
        rw [Nat.zero_add] at this
        exact this
    | succ n ih =>
      intro i' c' Z s1 hl' hln ew f2 fo fj f11 f7 hZ u hu
      rcases hl' with q | ⟨hi', hd'⟩
      · omega
      rcases hu with q | rfl
      · omega
      have hil' := (List.getElem?_eq_some_iff.mp hi').1
      obtain ⟨-, -, hpar⟩ := hC.2.2.1 i' c' hi'
      obtain ⟨p, cp, ep, hpl, hp, hdp⟩ : ∃ p cp, c'.2.2.1 = nI p ∧ p < i' ∧ C[p]? = some cp ∧ c'.2.2.2.2 = cp.2.2.2.2 + 1 := by
        rcases hpar with q | q
        · omega
        · exact q
      have hP1 : rP s1.2 := by rw [f2]; exact hP
      obtain ⟨-, -, g3, g4, -, -⟩ := h.2.1 i' c' hi'
      refine b_37_51 ?_
      rw [nI_sub1, if_neg (nI_nn (by omega))]
      refine ⟨49, ⟨so_47, rp_47_1 hP1⟩, 300, ⟨sa_49, inR_nI (by omega) (by decide)⟩, a7.1, b_76_0 ?_⟩
      rw [if_neg (nI_nn (by omega))]
      refine ⟨a7.1, ?_⟩
      rw [f7, if_neg (by rw [nJ_le (by omega) (by omega)]; omega), nI_cl (show i' < 2147483648 by omega), fo 49 (by omega) (by omega) (by omega), g4]
      refine ⟨l + 7 + 1, ⟨a7.1, by rw [f2]; exact a7.2.2.1⟩, 300, ⟨a7.2.1, inR_nI (by omega) (by decide)⟩, ?_⟩
      rw [rt_none, nI_cl (show n < 2147483648 by omega)]
      refine b_37_70 ⟨48, ⟨so_47, rp_47_0 hP1⟩, 300, ⟨sa_48, inR_nI (by omega) (by decide)⟩, ?_⟩
      have e48 : (pV s1 (l + 7 + 1) n (c'.2.2.2.1 + 1)).1 48 i' = nI p := by rw [pV_1, if_neg (by omega), fo 48 (by omega) (by omega) (by omega), g3, ep]
      rw [nI_cl (show i' < 2147483648 by omega), e48, show nI n + -1 = nI n - 1 by rw [Int32.sub_eq_add_neg]]
      refine ih p cp ((c'.2.2.2.1 + 1) :: Z) (pV s1 (l + 7 + 1) n (c'.2.2.2.1 + 1)) (Or.inr ⟨hp, by omega⟩) (by show n + (Z.length + 1) = _; omega) ?_ f2 (fun z x1 x2 x3 => (funext fun j => by rw [pV_1, if_neg (by omega)]).trans (fo z x1 x2 x3)) (fun j hj => by rw [pV_1, if_neg (by omega)]; exact fj j hj) (by rw [pV_1, if_neg (by omega)]; exact f11) (by rw [pV_1, if_neg (by omega)]; exact f7) (fun j z hj => ?_) _ (Or.inr rfl)
      · rw [ew]
        show (wdF C n (C.getD i' cm0).2.2.1.toNatClampNeg ++ [(C.getD i' cm0).2.2.2.1 + 1]) ++ Z = _
        rw [getD_some hi', ep, nI_cl (by omega), List.append_assoc]; rfl
      · cases j with
        | zero =>
          have : c'.2.2.2.1 + 1 = z := Option.some.inj hj
          rw [pV_1, if_pos ⟨by omega, by omega⟩]; exact this
        | succ j =>
          have hj : Z[j]? = some z := hj
          rw [pV_1, if_neg (by omega), show n + (j + 1) = n + 1 + j by omega]
          exact hZ j z hj
  -- zeroes first
  have zer : ∀ q k (s1 : sT), q + k = c.2.2.2.2 → s1.2 = s.2 → (∀ z, z ≠ l → z ≠ l + 7 → z ≠ l + 8 → s1.1 z = s.1 z) → (∀ j, j ≠ 11 → s1.1 l j = s.1 l j) → s1.1 l 11 = 1 → txO s1.1 (l + 7) (List.replicate k 0) → tT (yY L xs) (d + 1) 37 18 [.ref 47, .int (nI i), .ref (l + 7), .int (nI k), .null] [] s1 K := by
    intro q
    induction q with
    | zero =>
      intro k s1 hk f2 fo fj f11 ft
      have hP1 : rP s1.2 := by rw [f2]; exact hP
      refine b_37_18 ⟨50, ⟨so_47, rp_47_2 hP1⟩, 300, ⟨sa_50, inR_nI (by omega) (by decide)⟩, ?_⟩
      rw [nI_cl (show i < 2147483648 by omega), fo 50 (by omega) (by omega) (by omega), g5, if_pos (by rw [nJ_le (by omega) (by omega)]; omega)]
      refine ⟨50, ⟨so_47, rp_47_2 hP1⟩, 300, ⟨sa_50, inR_nI (by omega) (by decide)⟩, ?_⟩
      rw [fo 50 (by omega) (by omega) (by omega), g5]
      refine back _ i c [] s1 (Or.inr ⟨hi, rfl⟩) rfl (List.append_nil _).symm f2 fo fj f11 ?_ (fun j z q => by cases q) _ (Or.inr rfl)
      rw [ft.1, List.length_replicate, show k = c.2.2.2.2 by omega]
    | succ q ih =>
      intro k s1 hk f2 fo fj f11 ft
      have hP1 : rP s1.2 := by rw [f2]; exact hP
      refine b_37_18 ⟨50, ⟨so_47, rp_47_2 hP1⟩, 300, ⟨sa_50, inR_nI (by omega) (by decide)⟩, ?_⟩
      rw [nI_cl (show i < 2147483648 by omega), fo 50 (by omega) (by omega) (by omega), g5, if_neg (by rw [nJ_le (by omega) (by omega)]; omega)]
      refine ⟨a7.1, c_add (cap := 300) (by rw [f2]; exact a7) ft (by rw [List.length_replicate]; omega) (fun s2 ft2 fx => ?_)⟩
      rw [rt_none]
      refine b_37_33 ?_
      rw [← nI_succ k]
      refine ih (k + 1) s2 (by omega) (fx.1.trans f2) (fun z x1 x2 x3 => (fx.2.1 z (by omega) (by omega)).trans (fo z x1 x2 x3)) (fun j hj => by rw [fx.2.1 l (by omega) (by omega)]; exact fj j hj) (by rw [fx.2.1 l (by omega) (by omega)]; exact f11) ?_
      rw [List.replicate_succ']; exact ft2
  refine b_37_0 ⟨l, ⟨so_47, q9⟩, l + 7, ⟨k1, r6⟩, l, ⟨so_47, q9⟩, k1, Or.inr rfl, ?_⟩
  refine zer _ 0 _ rfl rfl (fun z x1 x2 x3 => funext fun j => by rw [pV_1, if_neg (by omega)]) (fun j hj => by rw [pV_1, if_neg (by omega)]) (by rw [pV_1, if_pos ⟨rfl, rfl⟩]) ⟨?_, fun j z q => by cases q⟩
  rw [pV_1, if_neg (by omega)]; exact h7
theorem c_drop {P : List Nat} (hS : sK L xs s l c0 c1 X0 X1) (h : sc s l n0 C (D ++ [(-1, P)])) (hC : cI n0 C (D ++ [(-1, P)])) (hK : ∀ s', fT' l s s' → sc s' l n0 C D → K none s') : tT (yY L xs) d 16 0 [.ref l, .int (nI D.length)] [] s K := by
  obtain ⟨hP, hl, ⟨k1, ⟨r0, r1, r2, r3, r4, r5, r6⟩, a1, a2, a3, a4, a5, a6, a7⟩, -⟩ := hS
  have hlen := hC.1
  have hi : D.length < C.length := by have := hC.2.1; rw [List.length_append] at this; exact this
  obtain ⟨m8, m9, m10⟩ := h.1
  rw [ps_app hi] at m9
  have m9 : s.1 l 9 = nI (ps D D.length + P.length) := m9
  have g := h.2.2.1 D.length hi
  rw [dg_app, if_pos rfl, ps_le _ (Nat.le_refl _)] at g
  obtain ⟨g3, g5, g4, g6⟩ := g
  have g5 : s.1 (l + 5) D.length = nI P.length := g5
  refine b_16_0 ⟨k1, l + 5, ⟨k1, r4⟩, 300, ⟨a5, inR_nI (by omega) (by decide)⟩, k1, l + 5, ⟨k1, r4⟩, 300, ⟨a5, inR_nI (by omega) (by decide)⟩, ?_⟩
  rw [nI_cl (show D.length < 2147483648 by omega), m9, g5, nJ_sub (by omega), Nat.add_sub_cancel]
  have ho : ∀ z, z ≠ l → z ≠ l + 5 → (pV (pV s l 9 (nI (ps D D.length))) (l + 5) D.length 0).1 z = s.1 z := fun z a b => funext fun j => by rw [pV_1, if_neg (by omega), pV_1, if_neg (by omega)]
  refine hK _ ⟨fC_put (fC_put (fC_refl l s) (by omega)) (by omega), by rw [pV_1, if_neg (by omega), pV_1, if_neg (by omega)], ho _ (by omega) (by omega)⟩ (sc_nil.mp ?_)
  refine sc_set h hl hi (fun z a b => ho z a (by omega)) (fun j hj => ?_) ?_ (fun j hj => by rw [ho _ (by omega) (by omega)]) (fun j hj => by rw [ho _ (by omega) (by omega)]) (fun j hj => ?_) (fun j hj => by rw [ho _ (by omega) (by omega)]) ?_ ?_ (fun q => absurd q (Nat.lt_irrefl _)) (fun j p q => by cases q)
  · rw [pV_1, if_neg (by omega), pV_1, if_neg (by omega)]
  · rw [pV_1, if_neg (by omega), pV_1, if_pos ⟨rfl, rfl⟩]; rfl
  · rw [pV_1, if_neg (by omega), pV_1, if_neg (by omega)]
  · rw [ho _ (by omega) (by omega)]; exact g3
  · rw [pV_1, if_pos ⟨rfl, rfl⟩]; rfl
/-- the rule is written -/
theorem sc_rule {P : List Nat} {r : Int32} (h : sc s l n0 C (D ++ [(-1, P)])) (hl : l = 37 ∨ l = 84) (hi : D.length < C.length) (h4 : 0 < P.length → s.1 (l + 4) D.length = nI (ps D D.length)) : sc (pV s (l + 3) D.length r) l n0 C (D ++ [(r, P)]) := by
  obtain ⟨m8, m9, m10⟩ := h.1
  rw [ps_app hi] at m9
  have g := h.2.2.1 D.length hi
  rw [dg_app, if_pos rfl, ps_le _ (Nat.le_refl _)] at g
  obtain ⟨g3, g5, g4, g6⟩ := g
  have ho : ∀ z, z ≠ l + 3 → (pV s (l + 3) D.length r).1 z = s.1 z := fun z a => funext fun j => by rw [pV_1, if_neg (by omega)]
  refine sc_set h hl hi (fun z a b => ho z (by omega)) (fun j hj => by rw [ho l (by omega)]) (by rw [ho l (by omega)]; exact m9) (fun j hj => by rw [pV_1, if_neg (by omega)]) (fun j hj => by rw [ho _ (by omega)]) (fun j hj => by rw [ho _ (by omega)]) (fun j hj => by rw [ho _ (by omega)]) (by rw [pV_1, if_pos ⟨rfl, rfl⟩]) (by rw [ho _ (by omega)]; exact g5) (fun q => by rw [ho _ (by omega)]; exact h4 q) (fun j p q => by rw [ho _ (by omega)]; exact g6 j p q)
/-- one turn: goes on, or ends with an answer -/
theorem c_turn {y : Cond} {c : cmT} (hS : sK L xs s l c0 c1 X0 X1) (h : sc s l (tms X0).length C D) (hC : cI (tms X0).length C D) (hi : C[D.length]? = some c) (hy : (tms X0)[c.1]? = some y) (h11 : s.1 l 11 = 0) (h7 : s.1 (l + 7) 1 = 0)
    (hm : memF (tms X1) y c.2.1 = true → ∀ s', fT' l s s' → sc s' l (tms X0).length C (D ++ [(0, [])]) → K (some 0) s')
    (ha : memF (tms X1) y c.2.1 = false → (full y = true ∧ anyF (tms X1) c.2.1 = false) → ∀ s', fC l s s' → sc s' l (tms X0).length C D → apC s'.1 l (some (txL (wdF C c.2.2.2.2 D.length))) → K (some 1) s')
    (h1 : memF (tms X1) y c.2.1 = false → ¬ (full y = true ∧ anyF (tms X1) c.2.1 = false) → ∀ C' P, stp D.length c.2.2.2.2 (dmL (tms X0) (tms X1) y c.2.1 3 0) C [] = (true, C', P) → ∀ s', fT' l s s' → sc s' l (tms X0).length C' (D ++ [(1, P)]) → cI (tms X0).length C' (D ++ [(1, P)]) → K (some 0) s')
    (h2 : memF (tms X1) y c.2.1 = false → ¬ (full y = true ∧ anyF (tms X1) c.2.1 = false) → ∀ C' P, stp D.length c.2.2.2.2 (dmL (tms X0) (tms X1) y c.2.1 3 0) C [] = (false, C', P) → ∀ s', fT' l s s' → sc s' l (tms X0).length C' D → cI (tms X0).length C' D → K (some 2) s') : tT (yY L xs) (d + 4) 33 0 [.ref 47, .int (nI D.length), .null, .null] [] s K := by
  obtain ⟨hP, hl, ⟨k1, ⟨r0, r1, r2, r3, r4, r5, r6⟩, a1, a2, a3, a4, a5, a6, a7⟩, ⟨q7, q8, q9⟩, x0, x1, -, -, h54⟩ := id hS
  have hlen := hC.1
  have hil := (List.getElem?_eq_some_iff.mp hi).1
  have htl := (List.getElem?_eq_some_iff.mp hy).1
  have h310 := sdX_31 x0
  have h311 := sdX_31 x1
  obtain ⟨g1, g2, -⟩ := h.2.1 _ c hi
  have e54 := h54 c.1 y hy
  have hin : inR (nI D.length) 300 := inR_nI (by omega) (by decide)
  have more : memF (tms X1) y c.2.1 = false → tT (yY L xs) (d + 4) 33 55 [.ref 47, .int (nI D.length), .int (nI c.1), .int c.2.1] [] s K := fun hmf => by
    have step : ¬ (full y = true ∧ anyF (tms X1) c.2.1 = false) → tT (yY L xs) (d + 4) 33 86 [.ref 47, .int (nI D.length), .int (nI c.1), .int c.2.1] [] s K := fun hnf => by
      refine b_33_86 ⟨so_47, c_step (d := d) hS h hC hi hy (fun s1 C' P er f1 hs1 hC1 h41 => ?_) (fun s1 C' P er f1 hs1 hC1 h41 => ?_)⟩
      · rw [rt_some]
        have hS1 := sK_fC hS f1.1
        have hi1 : D.length < C'.length := by have := hC1.2.1; rw [List.length_append] at this; exact this
        refine b_33_93 ?_
        rw [if_pos (by decide)]
        refine ⟨l, ⟨so_47, hS1.2.2.2.1.2.2⟩, l + 3, ⟨k1, hS1.2.2.1.2.1.2.2.1⟩, 300, ⟨a3, hin⟩, ?_⟩
        rw [nI_cl (show D.length < 2147483648 by omega)]
        exact h1 hmf hnf C' P er _ (fT'_trans f1 ⟨fC_put (fC_refl l s1) (by omega), by rw [pV_1, if_neg (by omega)], funext fun j => by rw [pV_1, if_neg (by omega)]⟩) (sc_rule hs1 hl hi1 (fun _ => h41)) (cI_P hC1 (by have := hC1.2.2.2 D.length; rw [dg_app, if_pos rfl] at this; exact this))
      · rw [rt_some]
        have hS1 := sK_fC hS f1.1
        refine b_33_93 ?_
        rw [if_neg (fun q => q rfl)]
        refine ⟨l, ⟨so_47, hS1.2.2.2.1.2.2⟩, k1, c_drop hS1 hs1 hC1 (fun s2 f2 hs2 => ?_)⟩
        rw [rt_none]
        have hCD : cI (tms X0).length C' D := by
          obtain ⟨z1, z2, z3, z4⟩ := hC1
          refine ⟨z1, by rw [List.length_append] at z2; omega, z3, hC.2.2.2⟩
        exact b_33_104 (h2 hmf hnf C' P er s2 (fT'_trans f1 f2) hs2 hCD)
    refine b_33_55 ⟨c0, ⟨so_47, q7⟩, x0.1.1, ?_⟩
    have ebit : (1 : Int32) <<< (nI c.1 &&& 31) = bitI c.1 := rfl
    rw [ebit]
    refine c_anyFull x0 ?_
    rw [rt_some, anyF_bit (by omega) hy]
    refine b_33_65 ?_
    cases hf : full y with
    | false =>
      rw [if_pos (show bz false = 0 from rfl)]
      exact step (fun q => by rw [hf] at q; cases q.1)
    | true =>
      rw [if_neg (by decide)]
      refine ⟨c1, ⟨so_47, q8⟩, x1.1.1, c_anyFull x1 ?_⟩
      rw [rt_some]
      refine b_33_76 ?_
      cases hany : anyF (tms X1) c.2.1 with
      | true =>
        rw [if_pos (by decide)]
        exact step (fun q => by rw [hany] at q; cases q.2)
      | false =>
        rw [if_neg (fun q => q rfl)]
        refine ⟨so_47, tt_mono (c_tell (d := d) hS h hC hi h7 (fun s1 f1 hs1 hap => ?_)) (by omega) (fun _ _ q => q)⟩
        rw [rt_none]
        exact b_33_84 (ha hmf ⟨hf, hany⟩ s1 f1 hs1 hap)
  refine b_33_0 ⟨l, ⟨so_47, q9⟩, l + 1, ⟨k1, r0⟩, 300, ⟨a1, hin⟩, l, ⟨so_47, q9⟩, l + 2, ⟨k1, r1⟩, 300, ⟨a2, hin⟩, 54, ⟨so_47, rp_47_6 hP⟩, 31, ?_⟩
  rw [nI_cl (show D.length < 2147483648 by omega), g1, g2, nI_cl (show c.1 < 2147483648 by omega), e54]
  refine ⟨⟨sa_54, inR_nI (by omega) (by decide)⟩, ?_⟩
  by_cases hmem : y ∈ tms X1
  · have hidx := List.idxOf_lt_length_iff.mpr hmem
    rw [if_pos hmem, if_neg (nn1 (by omega))]
    refine ⟨54, ⟨so_47, rp_47_6 hP⟩, 31, ⟨sa_54, inR_nI (by omega) (by decide)⟩, ?_⟩
    rw [e54, if_pos hmem]
    cases hb : bt c.2.1 ((tms X1).idxOf y) with
    | false =>
      rw [if_pos ((bt_t0 (by omega)).mpr hb)]
      exact more (by unfold memF; rw [hb, Bool.and_false])
    | true =>
      rw [if_neg (fun q => by rw [(bt_t0 (by omega)).mp q] at hb; cases hb)]
      refine ⟨l, ⟨so_47, q9⟩, l + 3, ⟨k1, r2⟩, 300, ⟨a3, hin⟩, ?_⟩
      exact hm (by unfold memF; rw [hb, Bool.and_true]; exact decide_eq_true hmem) _ ⟨fC_put (fC_refl l s) (by omega), by rw [pV_1, if_neg (by omega)], funext fun j => by rw [pV_1, if_neg (by omega)]⟩ (sc_rule (sc_nil.mpr h) hl hil (fun q => absurd q (Nat.lt_irrefl _)))
  · rw [if_neg hmem, if_pos rfl]
    exact more (by unfold memF; rw [decide_eq_false hmem, Bool.false_and])
end CU
