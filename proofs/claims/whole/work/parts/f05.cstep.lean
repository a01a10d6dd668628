/-! THE SEARCH, by the class: a step -/
section CS
variable {L : Nat} {xs : Nat → Int32} {d : Nat} {s : sT} {K : Option Int32 → sT → Prop} {X0 X1 : Cond} {l c0 c1 n0 : Nat} {C : List cmT} {D E : List dnT}
theorem c_lineFor {g x i : Nat} {S : Int32} {c : cmT} (hS : sK L xs s l c0 c1 X0 X1) (h : sc s l n0 C E) (hC : cI n0 C E) (hn : n0 ≤ 31) (hg : g < n0) (hgX : g < (tms X0).length) (hi : C[i]? = some c) (h1 : ∀ k, fnd C g S = some k → K (some (nI k)) s) (h0 : fnd C g S = none → C.length = 300 → K (some (-1)) s)
    (h2 : fnd C g S = none → C.length < 300 → ∀ s', fC l s s' → s'.1 l 11 = s.1 l 11 → s'.1 (l + 7) = s.1 (l + 7) → s'.1 (l + 6) = s.1 (l + 6) → (∀ k, k < C.length → s'.1 (l + 4) k = s.1 (l + 4) k) → sc s' l n0 (C ++ [(g, S, nI i, nI x, c.2.2.2.2 + 1)]) E → K (some (nI C.length)) s') : tT (yY L xs) (d + 2) 35 0 [.ref 47, .int (nI g), .int S, .int (nI i), .int (nI x), .null, .null] [] s K := by
  obtain ⟨hP, hl, hk9, ⟨r7, r8, r9⟩, -⟩ := id hS
  obtain ⟨⟨m8, m9, m10⟩, hc, he, hf, hla⟩ := id h
  have hlen := hC.1
  have hil := (List.getElem?_eq_some_iff.mp hi).1
  have new : fnd C g S = none → ∀ x5 x6 : Int32, tT (yY L xs) (d + 2) 35 73 [.ref 47, .int (nI g), .int S, .int (nI i), .int (nI x), .int x5, .int x6] [] s K := fun hf x5 x6 => by
    refine b_35_73 ⟨so_47, c_comeTo (d := d) hS h hC hn hg (Or.inr ⟨i, c, rfl, hil, hi, rfl⟩) (fun e => ?_) (fun hlt s' a1 a2 a3 a4 a5 a6 => ?_)⟩
    · rw [rt_some]; exact b_35_82 (h0 hf e)
    · rw [rt_some]; exact b_35_82 (h2 hf hlt s' a1 a2 a3 a4 a5 a6)
  have loop : ∀ q k u, C.length ≤ q + k → k ≤ C.length → u ≤ k → ff (fit C g S) (C.length - k) k = fnd C g S → tT (yY L xs) (d + 2) 35 24 [.ref 47, .int (nI g), .int S, .int (nI i), .int (nI x), .int (oI (nx C g k)), .int (nI u)] [] s K := by
    intro q
    induction q with
    | zero =>
      intro k u hk hkl hu ef
      have e0 : fnd C g S = none := by rw [← ef, show C.length - k = 0 by omega]; rfl
      refine b_35_24 ?_
      rw [nx_out (by omega)]
      by_cases h3 : (300 : Int32) ≤ nI u
      · rw [if_pos h3]; exact new e0 _ _
      · rw [if_neg h3, if_pos (show oI none = -1 from rfl)]; exact new e0 _ _
    | succ q ih =>
      intro k u hk hkl hu ef
      refine b_35_24 ?_
      by_cases h3 : (300 : Int32) ≤ nI u
      · rw [if_pos h3]
        rw [nI_lit 300, nJ_le (by omega) (by omega)] at h3
        exact new (by rw [← ef, show C.length - k = 0 by omega]; rfl) _ _
      rw [if_neg h3]
      have hch := ff_chain (C := C) (g := g) (S := S) (C.length - k) k (by omega)
      cases hnx : nx C g k with
      | none =>
        rw [if_pos (show oI none = -1 from rfl)]
        rw [show ff (gQ C g) (C.length - k) k = none from hnx] at hch
        exact new (by rw [← ef, hch]) _ _
      | some j =>
        rw [show ff (gQ C g) (C.length - k) k = some j from hnx] at hch
        simp only at hch
        obtain ⟨j1, j2, j3⟩ := nx_lt hnx
        have hj := List.getElem?_eq_getElem j2
        generalize C[j] = cj at hj
        rw [getD_some hj] at j3
        obtain ⟨g1, g2, -, -, -, g6⟩ := hc j cj hj
        rw [if_neg (show ¬ oI (some j) = -1 from nn1 (by omega))]
        refine ⟨l, ⟨so_47, r9⟩, l + 2, ⟨hk9.1, hk9.2.1.2.1⟩, 300, ⟨hk9.2.2.2.1, inR_nI (by omega) (by decide)⟩, ?_⟩
        rw [show oI (some j) = nI j from rfl, nI_cl (show j < 2147483648 by omega), g2]
        have efit : fit C g S j = decide (cj.1 = g ∧ cj.2.1 &&& (S ^^^ -1) = 0) := by unfold fit; rw [getD_some hj]
        by_cases e2 : cj.2.1 &&& (S ^^^ -1) = 0
        · rw [if_neg (fun q => q e2)]
          rw [efit, decide_eq_true ⟨j3, e2⟩, if_pos rfl] at hch
          exact h1 j (by rw [← ef, hch])
        · rw [if_pos e2]
          rw [efit, decide_eq_false (fun q => e2 q.2), if_neg (by decide)] at hch
          refine ⟨53, ⟨so_47, rp_47_5 hP⟩, 300, ⟨sa_53, inR_nI (by omega) (by decide)⟩, ?_⟩
          rw [g6, j3, ← nI_succ u]
          exact ih (j + 1) (u + 1) (by omega) (by omega) (by omega) (by rw [← hch]; exact ef)
  have x0 := hS.2.2.2.2.1
  have h31 := sdX_31 x0
  refine b_35_0 ⟨c0, ⟨so_47, r7⟩, x0.1.1, c_isTerm x0 (fun _ _ _ => ?_) (fun q => ?_)⟩
  rotate_left
  · exfalso
    rcases q with q | q
    · exact nI_nn (by omega) q
    · rw [nJ_le (by omega) (by omega)] at q; omega
  rw [rt_some]
  refine b_35_8 ?_
  rw [if_pos (by decide)]
  refine ⟨51, ⟨so_47, rp_47_3 hP⟩, 31, ⟨sa_51, inR_nI (by omega) (by decide)⟩, ?_⟩
  rw [nI_cl (show g < 2147483648 by omega), hf g hg]
  exact loop C.length 0 0 (by omega) (by omega) (by omega) rfl
theorem dg_nil : dg (D ++ [(-1, [])]) = dg D := funext fun k => by
  rw [dg_app]
  split
  · rename_i e; rw [e, dg_out (Nat.le_refl _)]
  · rfl
theorem sc_nil : sc s l n0 C (D ++ [(-1, [])]) ↔ sc s l n0 C D := by
  unfold sc ps
  rw [dg_nil]
theorem sc_set {P P' : List Nat} {r r' : Int32} {s' : sT} (h : sc s l n0 C (D ++ [(r, P)])) (hl : l = 37 ∨ l = 84) (hi : D.length < C.length) (ho : ∀ z, z ≠ l → ¬ (l + 3 ≤ z ∧ z ≤ l + 6) → s'.1 z = s.1 z) (h8 : ∀ j, j ≠ 9 → s'.1 l j = s.1 l j) (h9 : s'.1 l 9 = nI (ps D D.length + P'.length)) (h3 : ∀ j, j ≠ D.length → s'.1 (l + 3) j = s.1 (l + 3) j) (h4 : ∀ j, j ≠ D.length → s'.1 (l + 4) j = s.1 (l + 4) j) (h5 : ∀ j, j ≠ D.length → s'.1 (l + 5) j = s.1 (l + 5) j) (h6 : ∀ j, j < ps D D.length → s'.1 (l + 6) j = s.1 (l + 6) j)
    (e3 : s'.1 (l + 3) D.length = r') (e5 : s'.1 (l + 5) D.length = nI P'.length) (e4 : 0 < P'.length → s'.1 (l + 4) D.length = nI (ps D D.length)) (e6 : ∀ j p, P'[j]? = some p → s'.1 (l + 6) (ps D D.length + j) = nI p) : sc s' l n0 C (D ++ [(r', P')]) := by
  obtain ⟨⟨m8, m9, m10⟩, hc, he, hf, hla⟩ := h
  refine ⟨⟨by rw [h8 8 (by decide)]; exact m8, by rw [ps_app hi]; exact h9, by rw [h8 10 (by decide)]; exact m10⟩, fun k c hk => ?_, fun k hk => ?_, fun g hg => by rw [ho 51 (by omega) (by omega)]; exact hf g hg, fun g m hg hm => by rw [ho 52 (by omega) (by omega)]; exact hla g m hg hm⟩
  · rw [ho (l + 1) (by omega) (by omega), ho (l + 2) (by omega) (by omega), ho 48 (by omega) (by omega), ho 49 (by omega) (by omega), ho 50 (by omega) (by omega), ho 53 (by omega) (by omega)]
    exact hc k c hk
  · have hk0 := he k hk
    rw [dg_app] at hk0 ⊢
    by_cases ek : k = D.length
    · subst ek
      rw [if_pos rfl, ps_le _ (Nat.le_refl _)]
      exact ⟨e3, e5, e4, e6⟩
    · rw [if_neg ek] at hk0 ⊢
      obtain ⟨a3, a5, a4, a6⟩ := hk0
      rw [h3 k ek, h5 k ek, h4 k ek]
      by_cases hlt : k < D.length
      · rw [ps_le k (by omega)] at a4 a6 ⊢
        refine ⟨a3, a5, a4, fun j p q => ?_⟩
        have hj := (List.getElem?_eq_some_iff.mp q).1
        have hin : ps D k + (dg D k).2.length ≤ ps D D.length := psum_in (f := fun i => (dg D i).2.length) hlt
        rw [h6 _ (by omega)]
        exact a6 j p q
      · rw [dg_out (by omega)] at a3 a5 ⊢
        exact ⟨a3, a5, fun q => absurd q (Nat.lt_irrefl _), fun j p q => by cases q⟩
/-- what stays beside the lines: whether a word was told, its text -/
def fT' (l : Nat) (s s' : sT) : Prop := fC l s s' ∧ s'.1 l 11 = s.1 l 11 ∧ s'.1 (l + 7) = s.1 (l + 7)
theorem fT'_refl (l : Nat) (s : sT) : fT' l s s := ⟨fC_refl l s, rfl, rfl⟩
theorem fT'_trans {s1 s2 : sT} (h1 : fT' l s s1) (h2 : fT' l s1 s2) : fT' l s s2 := ⟨fC_trans h1.1 h2.1, h2.2.1.trans h1.2.1, h2.2.2.trans h1.2.2⟩
theorem c_open (hS : sK L xs s l c0 c1 X0 X1) (h : sc s l n0 C D) (hC : cI n0 C D) (hi : D.length < C.length) (hK : ∀ s', fT' l s s' → sc s' l n0 C (D ++ [(-1, [])]) → s'.1 (l + 4) D.length = nI (ps D D.length) → K none s') : tT (yY L xs) d 14 0 [.ref l, .int (nI D.length)] [] s K := by
  obtain ⟨hP, hl, ⟨k1, ⟨r0, r1, r2, r3, r4, r5, r6⟩, a1, a2, a3, a4, a5, a6, a7⟩, -⟩ := hS
  have hlen := hC.1
  obtain ⟨m8, m9, m10⟩ := h.1
  have e9 : ps D C.length = ps D D.length := ps_ge _ (by omega)
  have g := h.2.2.1 D.length hi
  rw [dg_out (Nat.le_refl _)] at g
  refine b_14_0 ⟨l + 4, ⟨k1, r3⟩, k1, 300, ⟨a4, inR_nI (by omega) (by decide)⟩, l + 5, ⟨k1, r4⟩, 300, ⟨a5, inR_nI (by omega) (by decide)⟩, ?_⟩
  rw [nI_cl (show D.length < 2147483648 by omega), m9, e9]
  refine hK _ ⟨fC_put (fC_put (fC_refl l s) (by omega)) (by omega), by rw [pV_1, if_neg (by omega), pV_1, if_neg (by omega)], funext fun j => by rw [pV_1, if_neg (by omega), pV_1, if_neg (by omega)]⟩ ?_ (by rw [pV_1, if_neg (by omega), pV_1, if_pos ⟨rfl, rfl⟩])
  refine sc_set (sc_nil.mpr h) hl hi (fun z a b => funext fun j => ?_) (fun j hj => ?_) ?_ (fun j hj => ?_) (fun j hj => ?_) (fun j hj => ?_) (fun j hj => ?_) ?_ ?_ (fun q => ?_) (fun j p q => by cases q)
  · rw [pV_1, if_neg (by omega), pV_1, if_neg (by omega)]
  · rw [pV_1, if_neg (by omega), pV_1, if_neg (by omega)]
  · rw [pV_1, if_neg (by omega), pV_1, if_neg (by omega), m9, e9]; rfl
  · rw [pV_1, if_neg (by omega), pV_1, if_neg (by omega)]
  · rw [pV_1, if_neg (by omega), pV_1, if_neg (by omega)]
  · rw [pV_1, if_neg (by omega), pV_1, if_neg (by omega)]
  · rw [pV_1, if_neg (by omega), pV_1, if_neg (by omega)]
  · rw [pV_1, if_neg (by omega), pV_1, if_neg (by omega)]; exact g.1
  · rw [pV_1, if_pos ⟨rfl, rfl⟩]; rfl
  · exact absurd q (Nat.lt_irrefl _)
theorem c_addPremise {P : List Nat} {k : Nat} (hS : sK L xs s l c0 c1 X0 X1) (h : sc s l n0 C (D ++ [(-1, P)])) (hC : cI n0 C (D ++ [(-1, P)])) (h4 : s.1 (l + 4) D.length = nI (ps D D.length)) (hP30 : P.length < 30)
    (hK : ∀ s', fT' l s s' → sc s' l n0 C (D ++ [(-1, P ++ [k])]) → s'.1 (l + 4) D.length = nI (ps D D.length) → K none s') : tT (yY L xs) d 15 0 [.ref l, .int (nI D.length), .int (nI k)] [] s K := by
  obtain ⟨hP, hl, ⟨k1, ⟨r0, r1, r2, r3, r4, r5, r6⟩, a1, a2, a3, a4, a5, a6, a7⟩, -⟩ := hS
  have hlen := hC.1
  have hi : D.length < C.length := by have := hC.2.1; rw [List.length_append] at this; exact this
  obtain ⟨m8, m9, m10⟩ := h.1
  rw [ps_app hi] at m9
  have m9 : s.1 l 9 = nI (ps D D.length + P.length) := m9
  have hbd := ps_9000 hC C.length
  rw [ps_app hi] at hbd
  have hbd : ps D D.length + P.length ≤ 9000 := hbd
  have g := h.2.2.1 D.length hi
  rw [dg_app, if_pos rfl, ps_le _ (Nat.le_refl _)] at g
  obtain ⟨g3, g5, g4, g6⟩ := g
  refine b_15_0 ⟨k1, ?_⟩
  rw [m9, if_neg (by rw [nI_lit 9300, nJ_le (by omega) (by omega)]; omega)]
  refine ⟨l + 6, ⟨k1, r5⟩, k1, 9300, ⟨a6, inR_nI (by omega) (by decide)⟩, k1, k1, l + 5, ⟨k1, r4⟩, 300, ⟨a5, inR_nI (by omega) (by decide)⟩, 300, ⟨a5, inR_nI (by omega) (by decide)⟩, ?_⟩
  rw [nI_cl (show ps D D.length + P.length < 2147483648 by omega), nI_cl (show D.length < 2147483648 by omega)]
  have v9 : (pV s (l + 6) (ps D D.length + P.length) (nI k)).1 l 9 = nI (ps D D.length + P.length) := by rw [pV_1, if_neg (by omega)]; exact m9
  rw [v9, ← nI_succ]
  have v5 : (pV (pV s (l + 6) (ps D D.length + P.length) (nI k)) l 9 (nI (ps D D.length + P.length + 1))).1 (l + 5) D.length = nI P.length := by rw [pV_1, if_neg (by omega), pV_1, if_neg (by omega)]; exact g5
  rw [v5, ← nI_succ]
  have ho : ∀ z, z ≠ l → z ≠ l + 5 → z ≠ l + 6 → (pV (pV (pV s (l + 6) (ps D D.length + P.length) (nI k)) l 9 (nI (ps D D.length + P.length + 1))) (l + 5) D.length (nI (P.length + 1))).1 z = s.1 z := fun z a b c => funext fun j => by rw [pV_1, if_neg (by omega), pV_1, if_neg (by omega), pV_1, if_neg (by omega)]
  refine hK _ ⟨fC_put (fC_put (fC_put (fC_refl l s) (by omega)) (by omega)) (by omega), by rw [pV_1, if_neg (by omega), pV_1, if_neg (by omega), pV_1, if_neg (by omega)], ho _ (by omega) (by omega) (by omega)⟩ ?_ (by rw [ho _ (by omega) (by omega) (by omega)]; exact h4)
  refine sc_set h hl hi (fun z a b => ho z a (by omega) (by omega)) (fun j hj => ?_) ?_ (fun j hj => by rw [ho _ (by omega) (by omega) (by omega)]) (fun j hj => by rw [ho _ (by omega) (by omega) (by omega)]) (fun j hj => ?_) (fun j hj => ?_) ?_ ?_ (fun _ => ?_) (fun j p q => ?_)
  · rw [pV_1, if_neg (by omega), pV_1, if_neg (by omega), pV_1, if_neg (by omega)]
  · rw [pV_1, if_neg (by omega), pV_1, if_pos ⟨rfl, rfl⟩, List.length_append]; rfl
  · rw [pV_1, if_neg (by omega), pV_1, if_neg (by omega), pV_1, if_neg (by omega)]
  · rw [pV_1, if_neg (by omega), pV_1, if_neg (by omega), pV_1, if_neg (by omega)]
  · rw [ho _ (by omega) (by omega) (by omega)]; exact g3
  · rw [pV_1, if_pos ⟨rfl, rfl⟩, List.length_append]; rfl
  · rw [ho _ (by omega) (by omega) (by omega)]; exact h4
  · rw [pV_1, if_neg (by omega), pV_1, if_neg (by omega), pV_1]
    rcases app_old q with ⟨q1, q2⟩ | ⟨rfl, rfl⟩
    · rw [if_neg (by omega)]; exact g6 j p q2
    · rw [if_pos ⟨rfl, rfl⟩]
theorem cI_P {P P' : List Nat} {r r' : Int32} (h : cI n0 C (D ++ [(r, P)])) (hp : P'.length ≤ 30) : cI n0 C (D ++ [(r', P')]) := by
  obtain ⟨a, b, c, e⟩ := h
  refine ⟨a, by rw [List.length_append] at b ⊢; exact b, c, fun k => ?_⟩
  have := e k
  rw [dg_app] at this ⊢
  split
  · exact hp
  · rename_i q; rw [if_neg q] at this; exact this
theorem c_step {y : Cond} {c : cmT} (hS : sK L xs s l c0 c1 X0 X1) (h : sc s l (tms X0).length C D) (hC : cI (tms X0).length C D) (hi : C[D.length]? = some c) (hy : (tms X0)[c.1]? = some y)
    (h1 : ∀ s' C' P, stp D.length c.2.2.2.2 (dmL (tms X0) (tms X1) y c.2.1 3 0) C [] = (true, C', P) → fT' l s s' → sc s' l (tms X0).length C' (D ++ [(-1, P)]) → cI (tms X0).length C' (D ++ [(-1, P)]) → s'.1 (l + 4) D.length = nI (ps D D.length) → K (some 1) s')
    (h0 : ∀ s' C' P, stp D.length c.2.2.2.2 (dmL (tms X0) (tms X1) y c.2.1 3 0) C [] = (false, C', P) → fT' l s s' → sc s' l (tms X0).length C' (D ++ [(-1, P)]) → cI (tms X0).length C' (D ++ [(-1, P)]) → s'.1 (l + 4) D.length = nI (ps D D.length) → K (some 0) s') : tT (yY L xs) (d + 3) 34 0 [.ref 47, .int (nI D.length), .int (nI c.1), .int c.2.1, .null, .null, .null, .null, .null] [] s K := by
  have hil := (List.getElem?_eq_some_iff.mp hi).1
  have hl := hC.1
  obtain ⟨-, -, hk, ⟨r7, r8, r9⟩, x0, x1, -⟩ := id hS
  have h31 := sdX_31 x0
  have htl := (List.getElem?_eq_some_iff.mp hy).1
  have hlt := lts_30 x0.2.2.2
  have hTall := tms_all x0.2.2.1 (by omega)
  have h3 := pt_three x0.2.2.1 (hTall.2.1 y (List.mem_of_getElem? hy))
  have hWl := dmL_len (tms X0) (tms X1) y c.2.1
  generalize hres : stp D.length c.2.2.2.2 (dmL (tms X0) (tms X1) y c.2.1 3 0) C [] = res at h1 h0
  generalize hcS : c.2.1 = S at hres hWl
  have outer : ∀ q x C1 (P1 : List Nat) (s1 : sT) u5 u6 u7 u8, q + x = 3 → P1.length + (dmL (tms X0) (tms X1) y S q x).length ≤ 30 → cI (tms X0).length C1 (D ++ [(-1, P1)]) → C1[D.length]? = some c → sc s1 l (tms X0).length C1 (D ++ [(-1, P1)]) → fT' l s s1 → s1.1 (l + 4) D.length = nI (ps D D.length) →
      stp D.length c.2.2.2.2 (dmL (tms X0) (tms X1) y S q x) C1 P1 = res → tT (yY L xs) (d + 3) 34 11 [.ref 47, .int (nI D.length), .int (nI c.1), .int S, .int (nI x), u5, u6, u7, u8] [] s1 K := by
    intro q
    induction q with
    | zero =>
      intro x C1 P1 s1 u5 u6 u7 u8 hx hP hC1 hi1 hs1 hf1 h41 er
      refine b_34_11 ?_
      rw [if_pos (by rw [nI_lit 3, nJ_le (by omega) (by omega)]; omega)]
      have er : (true, C1, P1) = res := er
      exact h1 s1 C1 P1 er.symm hf1 hs1 hC1 h41
    | succ q ih =>
      intro x C1 P1 s1 u5 u6 u7 u8 hx hP hC1 hi1 hs1 hf1 h41 er
      have hS1 := sK_fC hS hf1.1
      obtain ⟨-, -, -, ⟨r7, r8, r9⟩, x0, x1, -⟩ := id hS1
      refine b_34_11 ?_
      rw [if_neg (by rw [nI_lit 3, nJ_le (by omega) (by omega)]; omega)]
      refine ⟨c1, ⟨so_47, r8⟩, x1.1.1, c_partsOfSet x1 (by omega) ?_⟩
      rw [rt_some]
      refine b_34_27 ⟨c0, ⟨so_47, r7⟩, x0.1.1, c_partsOf x0 hy (by omega) ?_⟩
      rw [rt_some]
      refine b_34_39 ?_
      have hkl : (pt y x).length ≤ 30 := by
        rcases (show x = 0 ∨ x = 1 ∨ x = 2 by omega) with rfl | rfl | rfl <;> omega
      have inner : ∀ r k C1 (P1 : List Nat) (s1 : sT) u8, r + k = (pt y x).length → P1.length + r + (dmL (tms X0) (tms X1) y S q (x + 1)).length ≤ 30 → cI (tms X0).length C1 (D ++ [(-1, P1)]) → C1[D.length]? = some c → sc s1 l (tms X0).length C1 (D ++ [(-1, P1)]) → fT' l s s1 → s1.1 (l + 4) D.length = nI (ps D D.length) →
          stp D.length c.2.2.2.2 (((pt y x).drop k).map (fun z => ((tms X0).idxOf z, pso (tms X1) S x (tms X1).length, x)) ++ dmL (tms X0) (tms X1) y S q (x + 1)) C1 P1 = res → tT (yY L xs) (d + 3) 34 44 [.ref 47, .int (nI D.length), .int (nI c.1), .int S, .int (nI x), .int (pso (tms X1) S x (tms X1).length), .int (nI (pt y x).length), .int (nI k), u8] [] s1 K := by
        intro r
        induction r with
        | zero =>
          intro k C1 P1 s1 u8 hk hP hC1 hi1 hs1 hf1 h41 er
          refine b_34_44 ?_
          rw [if_pos (by rw [nJ_le (by omega) (by omega)]; omega), ← nI_succ x]
          rw [List.drop_eq_nil_of_le (by omega), List.map_nil, List.nil_append] at er
          exact ih (x + 1) C1 P1 s1 _ _ _ _ (by omega) (by omega) hC1 hi1 hs1 hf1 h41 er
        | succ r ih' =>
          intro k C1 P1 s1 u8 hk hP hC1 hi1 hs1 hf1 h41 er
          have hS1 := sK_fC hS hf1.1
          obtain ⟨-, -, hkk, ⟨r7, r8, r9⟩, x0, x1, -⟩ := id hS1
          have hl1 := hC1.1
          have hil1 := (List.getElem?_eq_some_iff.mp hi1).1
          have hc := List.getElem?_eq_getElem (show k < (pt y x).length by omega)
          generalize (pt y x)[k] = z at hc
          have hzm : z ∈ tms X0 := tms_cl x0.2.2.1 (by omega) (List.mem_of_getElem? hy) (show x < 3 by omega) (List.mem_of_getElem? hc)
          have hidx := List.idxOf_lt_length_iff.mpr hzm
          have epr : prI (tms X0) y x k = nI ((tms X0).idxOf z) := by unfold prI; rw [getD_some hc]
          rw [drop_at hc, List.map_cons, List.cons_append] at er
          refine b_34_44 ?_
          rw [if_neg (by rw [nJ_le (by omega) (by omega)]; omega)]
          refine ⟨c0, ⟨so_47, r7⟩, x0.1.1, c_partOf x0 hy (by omega) (by omega) ?_⟩
          rw [rt_some, epr]
          -- the premise is added
          have wr : ∀ (p : Nat) (C2 : List cmT) (s2 : sT), p < 300 → cI (tms X0).length C2 (D ++ [(-1, P1)]) → C2[D.length]? = some c → sc s2 l (tms X0).length C2 (D ++ [(-1, P1)]) → fT' l s s2 → s2.1 (l + 4) D.length = nI (ps D D.length) → stp D.length c.2.2.2.2 (((pt y x).drop (k + 1)).map (fun z => ((tms X0).idxOf z, pso (tms X1) S x (tms X1).length, x)) ++ dmL (tms X0) (tms X1) y S q (x + 1)) C2 (P1 ++ [p]) = res → tT (yY L xs) (d + 3) 34 72 [.ref 47, .int (nI D.length), .int (nI c.1), .int S, .int (nI x), .int (pso (tms X1) S x (tms X1).length), .int (nI (pt y x).length), .int (nI k), u8] [.int (nI p)] s2 K := by
            intro p C2 s2 hp3 hC2 hi2 hs2 hf2 h42 er2
            have hS2 := sK_fC hS hf2.1
            refine b_34_72 ?_
            rw [if_pos (nn1 (by omega))]
            refine ⟨l, ⟨so_47, hS2.2.2.2.1.2.2⟩, hkk.1, c_addPremise hS2 hs2 hC2 h42 (by omega) (fun s3 f3 hs3 h43 => ?_)⟩
            rw [rt_none]
            refine b_34_92 ?_
            rw [← nI_succ k]
            refine ih' (k + 1) C2 (P1 ++ [p]) s3 _ (by omega) (by rw [List.length_append]; show P1.length + 1 + r + _ ≤ 30; omega) (cI_P hC2 (by rw [List.length_append]; show P1.length + 1 ≤ 30; omega)) hi2 hs3 (fT'_trans hf2 f3) h43 er2
          refine b_34_64 ⟨so_47, c_lineFor (d := d) hS1 hs1 hC1 h31 hidx hidx hi1 (fun p hf => ?_) (fun hf h300 => ?_) (fun hf h300 s2 f2 a2 b2 e2 p2 hs2 => ?_)⟩
          · rw [rt_some]
            have hpl := fnd_lt hf
            rw [stp_some hf] at er
            exact wr p C1 s1 (by omega) hC1 hi1 hs1 hf1 h41 er
          · rw [rt_some]
            refine b_34_72 ?_
            rw [if_neg (fun q => q rfl)]
            rw [stp_no hf (by omega)] at er
            exact h0 s1 C1 P1 er.symm hf1 hs1 hC1 h41
          · rw [rt_some]
            rw [stp_new hf h300] at er
            exact wr C1.length _ s2 h300 (cI_app hC1 h300 hidx (Or.inr ⟨D.length, c, rfl, hil1, hi1, rfl⟩)) (app_in hi1) hs2 (fT'_trans hf1 ⟨f2, a2, b2⟩) (by rw [p2 _ hil1]; exact h41) er
      have er' : stp D.length c.2.2.2.2 (((pt y x).drop 0).map (fun z => ((tms X0).idxOf z, pso (tms X1) S x (tms X1).length, x)) ++ dmL (tms X0) (tms X1) y S q (x + 1)) C1 P1 = res := er
      refine inner _ 0 C1 P1 s1 _ rfl ?_ hC1 hi1 hs1 hf1 h41 er'
      have : (dmL (tms X0) (tms X1) y S (q + 1) x).length = (pt y x).length + (dmL (tms X0) (tms X1) y S q (x + 1)).length := by
        show (List.map _ (pt y x) ++ _).length = _
        rw [List.length_append, List.length_map]
      omega
  refine b_34_0 ⟨l, ⟨so_47, r9⟩, hk.1, c_open hS h hC hil (fun s1 f1 hs1 h41 => ?_)⟩
  rw [rt_none]
  exact b_34_8 (outer 3 0 C [] s1 _ _ _ _ rfl (by rw [hWl]; show 0 + _ ≤ 30; omega) (cI_D hC hil (by decide)) hi hs1 f1 h41 hres)
end CS
