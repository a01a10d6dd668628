/-! THE SEARCH, by the reference -/
theorem dmL_len (F0 F1 : List Cond) (y : Cond) (S : Int32) : (dmL F0 F1 y S 3 0).length = (pt y 0).length + (pt y 1).length + (pt y 2).length := by
  simp only [dmL, List.length_append, List.length_map, List.length_nil, Nat.zero_add, Nat.reduceAdd]
  omega
/-- one step of stp -/
theorem stp_some {i dp : Nat} {w : Nat × Int32 × Nat} {W : List (Nat × Int32 × Nat)} {C : List cmT} {P : List Nat} {k : Nat} (h : fnd C w.1 w.2.1 = some k) : stp i dp (w :: W) C P = stp i dp W C (P ++ [k]) := by
  show (match fnd C w.1 w.2.1 with | some k => _ | none => _) = _
  rw [h]
theorem stp_new {i dp : Nat} {w : Nat × Int32 × Nat} {W : List (Nat × Int32 × Nat)} {C : List cmT} {P : List Nat} (h : fnd C w.1 w.2.1 = none) (h3 : C.length < 300) : stp i dp (w :: W) C P = stp i dp W (C ++ [(w.1, w.2.1, nI i, nI w.2.2, dp + 1)]) (P ++ [C.length]) := by
  show (match fnd C w.1 w.2.1 with | some k => _ | none => _) = _
  rw [h]
  exact if_pos h3
theorem stp_no {i dp : Nat} {w : Nat × Int32 × Nat} {W : List (Nat × Int32 × Nat)} {C : List cmT} {P : List Nat} (h : fnd C w.1 w.2.1 = none) (h3 : ¬ C.length < 300) : stp i dp (w :: W) C P = (false, C, P) := by
  show (match fnd C w.1 w.2.1 with | some k => _ | none => _) = _
  rw [h]
  exact if_neg h3
/-- what a step keeps -/
theorem stp_I {n0 i dp : Nat} {D : List dnT} {l : cmT} : ∀ (W : List (Nat × Int32 × Nat)) (C : List cmT) (P : List Nat), (∀ w ∈ W, w.1 < n0) → cI n0 C D → C[i]? = some l → l.2.2.2.2 = dp → cI n0 (stp i dp W C P).2.1 D ∧ (∃ e, (stp i dp W C P).2.1 = C ++ e) ∧ (stp i dp W C P).2.2.length ≤ P.length + W.length
  | [], C, P, _, hC, _, _ => ⟨hC, ⟨[], (List.append_nil C).symm⟩, Nat.le_refl _⟩
  | w :: W, C, P, hW, hC, hi, hd => by
    have hil := (List.getElem?_eq_some_iff.mp hi).1
    cases hf : fnd C w.1 w.2.1 with
    | some k =>
      rw [stp_some hf]
      obtain ⟨a, b, c⟩ := stp_I W C (P ++ [k]) (fun z hz => hW z (List.mem_cons_of_mem _ hz)) hC hi hd
      refine ⟨a, b, ?_⟩
      simp only [List.length_append, List.length_cons, List.length_nil] at c ⊢
      omega
    | none =>
      by_cases h3 : C.length < 300
      · rw [stp_new hf h3]
        obtain ⟨a, ⟨e, b⟩, c⟩ := stp_I W (C ++ [(w.1, w.2.1, nI i, nI w.2.2, dp + 1)]) (P ++ [C.length]) (fun z hz => hW z (List.mem_cons_of_mem _ hz)) (cI_app hC h3 (hW w List.mem_cons_self) (Or.inr ⟨i, l, rfl, hil, hi, by rw [hd]⟩)) (app_in hi) hd
        refine ⟨a, ⟨_, by rw [b, List.append_assoc]⟩, ?_⟩
        simp only [List.length_append, List.length_cons, List.length_nil] at c ⊢
        omega
      · rw [stp_no hf h3]
        refine ⟨hC, ⟨[], (List.append_nil C).symm⟩, by simp only; omega⟩
theorem drop_at {α : Type} {l : List α} {k : Nat} {c : α} (h : l[k]? = some c) : l.drop k = c :: l.drop (k + 1) := by
  obtain ⟨h1, h2⟩ := List.getElem?_eq_some_iff.mp h
  rw [List.drop_eq_getElem_cons h1, h2]
section RS
variable {L : Nat} {xs : Nat → Int32} {d : Nat} {s : sT} {K : Option Int32 → sT → Prop} {T : List Cond} {X0 X1 : Cond} {b n0 : Nat} {C : List cmT} {D : List dnT}
theorem sr_prem {j : Nat} {v : Int32} (h : sr s b C D) (hC : cI n0 C D) (hi : D.length < C.length) (hj : j < 30) : sr (pV s 187 (b + 1387 + 30 * D.length + j) v) b C D := by
  obtain ⟨h1, h2, h3, h4⟩ := h
  have hl := hC.1
  have o : ∀ z, z ≠ b + 1387 + 30 * D.length + j → (pV s 187 (b + 1387 + 30 * D.length + j) v).1 187 z = s.1 187 z := fun z hz => by rw [pV_1, if_neg (by omega)]
  have o2 : ∀ z, z ≠ 187 → (pV s 187 (b + 1387 + 30 * D.length + j) v).1 z = s.1 z := fun z hz => funext fun j => by rw [pV_1, if_neg (by omega)]
  refine ⟨by rw [o _ (by omega)]; exact h1, fun k l hk => ?_, fun k hk => ?_, by rw [o _ (by omega)]; exact h4⟩
  · have := (List.getElem?_eq_some_iff.mp hk).1
    rw [o _ (by omega), o _ (by omega), o2 215 (by decide), o2 216 (by decide), o2 217 (by decide)]
    exact h2 k l hk
  · obtain ⟨g1, g2, g3⟩ := h3 k hk
    rw [o _ (by omega), o _ (by omega)]
    refine ⟨g1, g2, fun j' p q => ?_⟩
    have hp := hC.2.2.2 k
    have := (List.getElem?_eq_some_iff.mp q).1
    by_cases ek : k = D.length
    · subst ek
      rw [dg_out (Nat.le_refl _)] at q
      cases q
    · rw [o _ (by omega)]
      exact g3 j' p q
/-- the line is decided -/
theorem sr_done {r : Int32} {P : List Nat} {s' : sT} (h : sr s b C D) (hC : cI n0 C D) (hi : D.length < C.length) (hP : P.length ≤ 30) (hp : ∀ j p, P[j]? = some p → s.1 187 (b + 1387 + 30 * D.length + j) = nI p)
    (o : ∀ z, z ≠ b + 787 + D.length → z ≠ b + 1087 + D.length → s'.1 187 z = s.1 187 z) (o2 : ∀ z, z ≠ 187 → s'.1 z = s.1 z) (e1 : s'.1 187 (b + 787 + D.length) = r) (e2 : s'.1 187 (b + 1087 + D.length) = nI P.length) : sr s' b C (D ++ [(r, P)]) := by
  obtain ⟨h1, h2, h3, h4⟩ := h
  have hl := hC.1
  refine ⟨by rw [o _ (by omega) (by omega)]; exact h1, fun k l hk => ?_, fun k hk => ?_, by rw [o _ (by omega) (by omega)]; exact h4⟩
  · have := (List.getElem?_eq_some_iff.mp hk).1
    rw [o _ (by omega) (by omega), o _ (by omega) (by omega), o2 215 (by decide), o2 216 (by decide), o2 217 (by decide)]
    exact h2 k l hk
  · rw [dg_app]
    by_cases ek : k = D.length
    · subst ek
      rw [if_pos rfl]
      refine ⟨e1, e2, fun j p q => ?_⟩
      have := (List.getElem?_eq_some_iff.mp q).1
      have : j < P.length := this
      rw [o _ (by omega) (by omega)]
      exact hp j p q
    · rw [if_neg ek]
      obtain ⟨g1, g2, g3⟩ := h3 k hk
      refine ⟨by rw [o _ (by omega) (by omega)]; exact g1, by rw [o _ (by omega) (by omega)]; exact g2, fun j p q => ?_⟩
      have := (List.getElem?_eq_some_iff.mp q).1
      have hp := hC.2.2.2 k
      rw [o _ (by omega) (by omega)]
      exact g3 j p q
theorem r_steps {y : Cond} {l : cmT} (hT : rT s T X0 X1) (c0 : cn X0) (hz : z0 X0 ≤ 30) (h : sr s b C D) (hC : cI (tms X0).length C D) (hb : b ≤ 10689) (hi : C[D.length]? = some l) (hy : (tms X0)[l.1]? = some y)
    (h1 : ∀ s' C' P, stp D.length l.2.2.2.2 (dmL (tms X0) (tms X1) y l.2.1 3 0) C [] = (true, C', P) → fW b s s' → s'.1 187 (b + 10388) = s.1 187 (b + 10388) → sr s' b C' (D ++ [(1, P)]) → K (some 1) s')
    (h0 : ∀ s' C' P, stp D.length l.2.2.2.2 (dmL (tms X0) (tms X1) y l.2.1 3 0) C [] = (false, C', P) → fW b s s' → s'.1 187 (b + 10388) = s.1 187 (b + 10388) → sr s' b C' D → K (some 0) s') : tT (yY L xs) (d + 1) 187 0 [.ref 186, .int (nI b), .int (nI D.length), .null, .null, .null, .null, .null, .null, .null, .null] [] s K := by
  have hil := (List.getElem?_eq_some_iff.mp hi).1
  have hl := hC.1
  have h31 := rS_31 hT.2.2.1
  have htl := (List.getElem?_eq_some_iff.mp hy).1
  have h3 := pt_three c0 ((tms_all c0 (by have := lts_30 hz; omega)).2.1 y (List.mem_of_getElem? hy))
  have hlt := lts_30 hz
  have hWl := dmL_len (tms X0) (tms X1) y l.2.1
  generalize hres : stp D.length l.2.2.2.2 (dmL (tms X0) (tms X1) y l.2.1 3 0) C [] = res at h1 h0
  generalize hS : l.2.1 = S at hres hWl
  have outer : ∀ q x C1 (P1 : List Nat) (s1 : sT) u6 u7 u8 u9 u10, q + x = 3 → P1.length + (dmL (tms X0) (tms X1) y S q x).length ≤ 30 → cI (tms X0).length C1 D → C1[D.length]? = some l → sr s1 b C1 D → fW b s s1 → s1.1 187 (b + 10388) = s.1 187 (b + 10388) → (∀ j p, P1[j]? = some p → s1.1 187 (b + 1387 + 30 * D.length + j) = nI p) →
      stp D.length l.2.2.2.2 (dmL (tms X0) (tms X1) y S q x) C1 P1 = res → tT (yY L xs) (d + 1) 187 19 [.ref 186, .int (nI b), .int (nI D.length), .int S, .int (nI P1.length), .int (nI x), u6, u7, u8, u9, u10] [] s1 K := by
    intro q
    induction q with
    | zero =>
      intro x C1 P1 s1 u6 u7 u8 u9 u10 hx hP hC1 hi1 hs1 hf1 ha1 hp1 er
      have hl1 := hC1.1
      have hil1 := (List.getElem?_eq_some_iff.mp hi1).1
      have hM1 := (rT_fW hT hf1).1.1
      have er : (true, C1, P1) = res := er
      have hP : P1.length + 0 ≤ 30 := hP
      refine b_187_19 ?_
      rw [if_pos (by rw [nI_lit 3, nJ_le (by omega) (by omega)]; omega)]
      refine ⟨187, ⟨so_186, rm_186_0 hM1⟩, 42882, ?_⟩
      rw [nI_lit 787, nI_lit 1087, nJ_add, nJ_add, nJ_add, nJ_add, nI_cl (show b + 787 + D.length < 2147483648 by omega), nI_cl (show b + 1087 + D.length < 2147483648 by omega)]
      refine ⟨⟨sa_187, inR_nI (by omega) (by decide)⟩, 187, ⟨so_186, rm_186_0 hM1⟩, 42882, ⟨sa_187, inR_nI (by omega) (by decide)⟩, ?_⟩
      refine h1 _ C1 P1 er.symm (fW_put (fW_put hf1 (by omega)) (by omega)) (by rw [pV_1, if_neg (by omega), pV_1, if_neg (by omega)]; exact ha1) (sr_done hs1 hC1 hil1 (by omega) hp1 (fun z a c => by rw [pV_1, if_neg (by omega), pV_1, if_neg (by omega)]) (fun z a => funext fun j => by rw [pV_1, if_neg (by omega), pV_1, if_neg (by omega)]) (by rw [pV_1, if_neg (by omega), pV_1, if_pos ⟨rfl, rfl⟩]) (by rw [pV_1, if_pos ⟨rfl, rfl⟩]))
    | succ q ih =>
      intro x C1 P1 s1 u6 u7 u8 u9 u10 hx hP hC1 hi1 hs1 hf1 ha1 hp1 er
      have hl1 := hC1.1
      have hil1 := (List.getElem?_eq_some_iff.mp hi1).1
      have hT1 := rT_fW hT hf1
      refine b_187_19 ?_
      rw [if_neg (by rw [nI_lit 3, nJ_le (by omega) (by omega)]; omega)]
      refine ⟨so_186, r_partsOf (σ := 1) hT1.1 hT1.2.2.2 (by decide) (by omega) ?_⟩
      rw [rt_some]
      refine b_187_33 ⟨187, ⟨so_186, rm_186_0 hT1.1.1⟩, 42882, ?_⟩
      rw [nI_lit 187, nJ_add, nJ_add, nI_cl (show b + 187 + D.length < 2147483648 by omega), (hs1.2.1 _ l hi1).1, nI_lit 3, nJ_mul, nJ_add]
      refine ⟨⟨sa_187, inR_nI (by omega) (by decide)⟩, ?_⟩
      have inner : ∀ r k C1 (P1 : List Nat) (s1 : sT) u9 u10, r + k = (pt y x).length → P1.length + r + (dmL (tms X0) (tms X1) y S q (x + 1)).length ≤ 30 → cI (tms X0).length C1 D → C1[D.length]? = some l → sr s1 b C1 D → fW b s s1 → s1.1 187 (b + 10388) = s.1 187 (b + 10388) → (∀ j p, P1[j]? = some p → s1.1 187 (b + 1387 + 30 * D.length + j) = nI p) →
          stp D.length l.2.2.2.2 (((pt y x).drop k).map (fun z => ((tms X0).idxOf z, pso (tms X1) S x (tms X1).length, x)) ++ dmL (tms X0) (tms X1) y S q (x + 1)) C1 P1 = res → tT (yY L xs) (d + 1) 187 57 [.ref 186, .int (nI b), .int (nI D.length), .int S, .int (nI P1.length), .int (nI x), .int (pso (tms X1) S x (tms X1).length), .int (nI (3 * l.1 + x)), .int (nI k), u9, u10] [] s1 K := by
        intro r
        induction r with
        | zero =>
          intro k C1 P1 s1 u9 u10 hk hP hC1 hi1 hs1 hf1 ha1 hp1 er
          have hT1 := rT_fW hT hf1
          obtain ⟨g1, -, -⟩ := hT1.2.2.1.2 l.1 y x hy (by omega)
          rw [show 3 * (31 * 0 + l.1) + x = 3 * l.1 + x by omega] at g1
          have hkl : (pt y x).length ≤ 30 := by
            rcases (show x = 0 ∨ x = 1 ∨ x = 2 by omega) with rfl | rfl | rfl <;> omega
          refine b_187_57 ⟨214, ⟨so_186, rm_186_38 hT1.1.1⟩, 186, ⟨sa_214, inR_nI (by omega) (by decide)⟩, ?_⟩
          rw [nI_cl (show 3 * l.1 + x < 2147483648 by omega), g1, if_pos (by rw [nJ_le (by omega) (by omega)]; omega), ← nI_succ x]
          rw [List.drop_eq_nil_of_le (by omega), List.map_nil, List.nil_append] at er
          exact ih (x + 1) C1 P1 s1 _ _ _ _ _ (by omega) (by omega) hC1 hi1 hs1 hf1 ha1 hp1 er
        | succ r ih' =>
          intro k C1 P1 s1 u9 u10 hk hP hC1 hi1 hs1 hf1 ha1 hp1 er
          have hT1 := rT_fW hT hf1
          have hM1 := hT1.1.1
          have hl1 := hC1.1
          have hil1 := (List.getElem?_eq_some_iff.mp hi1).1
          have hc := List.getElem?_eq_getElem (show k < (pt y x).length by omega)
          generalize (pt y x)[k] = c at hc
          obtain ⟨g1, g2, -⟩ := hT1.2.2.1.2 l.1 y x hy (by omega)
          rw [show 3 * (31 * 0 + l.1) + x = 3 * l.1 + x by omega] at g1
          obtain ⟨hcm, g3⟩ := g2 k c hc
          rw [show 31 * (3 * (31 * 0 + l.1) + x) + k = 31 * (3 * l.1 + x) + k by omega] at g3
          have hidx := List.idxOf_lt_length_iff.mpr hcm
          have hkl : (pt y x).length ≤ 30 := by
            rcases (show x = 0 ∨ x = 1 ∨ x = 2 by omega) with rfl | rfl | rfl <;> omega
          rw [drop_at hc, List.map_cons, List.cons_append] at er
          refine b_187_57 ⟨214, ⟨so_186, rm_186_38 hM1⟩, 186, ⟨sa_214, inR_nI (by omega) (by decide)⟩, ?_⟩
          rw [nI_cl (show 3 * l.1 + x < 2147483648 by omega), g1, if_neg (by rw [nJ_le (by omega) (by omega)]; omega)]
          refine ⟨213, ⟨so_186, rm_186_37 hM1⟩, 5766, ?_⟩
          rw [nI_lit 31, nJ_mul, nJ_add, nI_cl (show 31 * (3 * l.1 + x) + k < 2147483648 by omega), g3]
          refine ⟨⟨sa_213, inR_nI (by omega) (by decide)⟩, so_186, r_lineWith hM1 hs1 hC1 hb (by omega) (by omega) ?_⟩
          rw [rt_some]
          -- the premise is written
          have wr : ∀ (p : Nat) (C2 : List cmT) (s2 : sT), p < 300 → cI (tms X0).length C2 D → C2[D.length]? = some l → sr s2 b C2 D → fW b s s2 → s2.1 187 (b + 10388) = s.1 187 (b + 10388) → (∀ j p, P1[j]? = some p → s2.1 187 (b + 1387 + 30 * D.length + j) = nI p) → stp D.length l.2.2.2.2 (((pt y x).drop (k + 1)).map (fun z => ((tms X0).idxOf z, pso (tms X1) S x (tms X1).length, x)) ++ dmL (tms X0) (tms X1) y S q (x + 1)) C2 (P1 ++ [p]) = res → tT (yY L xs) (d + 1) 187 149 [.ref 186, .int (nI b), .int (nI D.length), .int S, .int (nI P1.length), .int (nI x), .int (pso (tms X1) S x (tms X1).length), .int (nI (3 * l.1 + x)), .int (nI k), .int (nI ((tms X0).idxOf c)), .int (nI p)] [] s2 K := by
            intro p C2 s2 hp3 hC2 hi2 hs2 hf2 ha2 hp2 er2
            have hil2 := (List.getElem?_eq_some_iff.mp hi2).1
            refine b_187_149 ⟨187, ⟨so_186, rm_186_0 (rT_fW hT hf2).1.1⟩, 42882, ?_⟩
            rw [nI_lit 1387, nI_lit 30, nJ_mul, nJ_add, nJ_add, nJ_add, nI_cl (show b + 1387 + 30 * D.length + P1.length < 2147483648 by omega)]
            refine ⟨⟨sa_187, inR_nI (by omega) (by decide)⟩, ?_⟩
            have := ih' (k + 1) C2 (P1 ++ [p]) (pV s2 187 (b + 1387 + 30 * D.length + P1.length) (nI p)) (.int (nI ((tms X0).idxOf c))) (.int (nI p)) (by omega) (by rw [List.length_append]; show P1.length + 1 + r + _ ≤ 30; omega) hC2 hi2 (sr_prem hs2 hC2 hil2 (by omega)) (fW_put hf2 (by omega)) (by rw [pV_1, if_neg (by omega)]; exact ha2) (fun j p' hj => by
              rcases app_old hj with ⟨q1, q2⟩ | ⟨rfl, rfl⟩
              · rw [pV_1, if_neg (by omega)]; exact hp2 j p' q2
              · rw [pV_1, if_pos ⟨rfl, rfl⟩]) er2
            rw [List.length_append, show P1.length + [p].length = P1.length + 1 from rfl, nI_succ P1.length, nI_succ k] at this
            exact this
          cases hf : fnd C1 ((tms X0).idxOf c) (pso (tms X1) S x (tms X1).length) with
          | some p =>
            have hpl := fnd_lt hf
            have hne : ¬ oI (some p) = -1 := fun q => by
              have h2 := nI_nn (a := p) (by omega)
              rw [show nI p = -1 from q] at h2
              exact h2 (by decide)
            refine b_187_93 ?_
            rw [if_pos hne]
            refine b_187_119 ?_
            rw [if_pos hne]
            rw [stp_some hf] at er
            exact wr p C1 s1 (by omega) hC1 hi1 hs1 hf1 ha1 hp1 er
          | none =>
            refine b_187_93 ?_
            rw [if_neg (fun q => q rfl)]
            refine ⟨187, ⟨so_186, rm_186_0 hM1⟩, 42882, ?_⟩
            rw [nI_lit 186, nJ_add, nI_cl (show b + 186 < 2147483648 by omega), hs1.1]
            refine ⟨⟨sa_187, inR_nI (by omega) (by decide)⟩, ?_⟩
            by_cases h300 : C1.length < 300
            · rw [if_pos (by rw [nI_lit 300, nJ_eq (by omega) (by omega)]; omega)]
              refine b_187_119 ?_
              rw [if_neg (fun q => q rfl)]
              refine ⟨187, ⟨so_186, rm_186_0 hM1⟩, 42882, ?_⟩
              rw [nI_lit 186, nJ_add, nI_cl (show b + 186 < 2147483648 by omega), hs1.1]
              rw [stp_new hf h300] at er
              refine ⟨⟨sa_187, inR_nI (by omega) (by decide)⟩, so_186, r_newLine (dp := l.2.2.2.2 + 1) hM1 hs1 hC1 hb h300 (Or.inr ⟨D.length, l, rfl, hil1, hi1, rfl⟩) (fun s2 f2 a2 p2 hs2 => ?_)⟩
              rw [rt_none]
              refine wr C1.length _ s2 h300 (cI_app hC1 h300 hidx (Or.inr ⟨D.length, l, rfl, hil1, hi1, rfl⟩)) (app_in hi1) hs2 (fW_trans hf1 f2) (a2.trans ha1) (fun j p hj => ?_) er
              have := (List.getElem?_eq_some_iff.mp hj).1
              rw [p2 D.length j hil1 (by omega)]
              exact hp1 j p hj
            · rw [if_neg (fun q => q (by rw [nI_lit 300]; congr 1; omega))]
              rw [stp_no hf h300] at er
              exact h0 s1 C1 P1 er.symm hf1 ha1 hs1
      have er' : stp D.length l.2.2.2.2 (((pt y x).drop 0).map (fun z => ((tms X0).idxOf z, pso (tms X1) S x (tms X1).length, x)) ++ dmL (tms X0) (tms X1) y S q (x + 1)) C1 P1 = res := er
      refine inner _ 0 C1 P1 s1 _ _ rfl ?_ hC1 hi1 hs1 hf1 ha1 hp1 er'
      have : (dmL (tms X0) (tms X1) y S (q + 1) x).length = (pt y x).length + (dmL (tms X0) (tms X1) y S q (x + 1)).length := by
        show (List.map _ (pt y x) ++ _).length = _
        rw [List.length_append, List.length_map]
      omega
  refine b_187_0 ⟨187, ⟨so_186, rm_186_0 hT.1.1⟩, 42882, ?_⟩
  rw [nI_lit 487, nJ_add, nJ_add, nI_cl (show b + 487 + D.length < 2147483648 by omega), (h.2.1 _ l hi).2.1, hS]
  exact ⟨⟨sa_187, inR_nI (by omega) (by decide)⟩, outer 3 0 C [] s _ _ _ _ _ rfl (by rw [hWl]; show 0 + _ ≤ 30; omega) hC hi h (fW_refl b s) rfl (fun j p q => by cases q) hres⟩
theorem wd_len (C : List cmT) : ∀ n i, (wdF C n i).length = n
  | 0, _ => rfl
  | n + 1, i => by
    show (wdF C n _ ++ [_]).length = n + 1
    rw [List.length_append, wd_len C n]; rfl
theorem r_tells {l : cmT} (hM : rM s.2) (h : sr s b C D) (hC : cI n0 C D) (hb : b ≤ 10689) {i : Nat} (hi : C[i]? = some l)
    (hK : ∀ s', fW b s s' → sr s' b C D → apR (s'.1 187) b (some (txL (wdF C l.2.2.2.2 i))) → K none s') : tT (yY L xs) d 188 0 [.ref 186, .int (nI b), .int (nI i), .null, .null, .null] [] s K := by
  have hl := hC.1
  have hil := (List.getElem?_eq_some_iff.mp hi).1
  have hd := (hC.2.2.1 i l hi).2.1
  have sro : ∀ s', (∀ z, z < b + 10388 → s'.1 187 z = s.1 187 z) → (∀ z, z ≠ 187 → s'.1 z = s.1 z) → sr s' b C D := fun s' o o2 => by
    obtain ⟨h1, h2, h3, h4⟩ := h
    refine ⟨by rw [o _ (by omega)]; exact h1, fun k l hk => ?_, fun k hk => ?_, by rw [o _ (by omega)]; exact h4⟩
    · have := (List.getElem?_eq_some_iff.mp hk).1
      rw [o _ (by omega), o _ (by omega), o2 215 (by decide), o2 216 (by decide), o2 217 (by decide)]
      exact h2 k l hk
    · obtain ⟨g1, g2, g3⟩ := h3 k hk
      refine ⟨by rw [o _ (by omega)]; exact g1, by rw [o _ (by omega)]; exact g2, fun j p q => ?_⟩
      have := (List.getElem?_eq_some_iff.mp q).1
      have hp := hC.2.2.2 k
      rw [o _ (by omega)]
      exact g3 j p q
  have loop : ∀ n i' l' (Z : List Int32) (s1 : sT), (n = 0 ∨ (C[i']? = some l' ∧ l'.2.2.2.2 = n)) → n + Z.length = l.2.2.2.2 → wdF C l.2.2.2.2 i = wdF C n i' ++ Z → fW b s s1 → (∀ z, z < b + 10388 → s1.1 187 z = s.1 187 z) → (∀ z, z ≠ 187 → s1.1 z = s.1 z) → s1.1 187 (b + 10388) = nI l.2.2.2.2 → (∀ j z, Z[j]? = some z → s1.1 187 (b + 10389 + n + j) = z) → ∀ u : Int32, (n = 0 ∨ u = nI i') → tT (yY L xs) d 188 24 [.ref 186, .int (nI b), .int (nI i), .int (nI l.2.2.2.2), .int u, .int (nI n)] [] s1 K := by
    intro n
    induction n with
    | zero =>
      intro i' l' Z s1 hl' hlen ew hf o o2 h10 hZ u hu
      refine b_188_24 ?_
      rw [if_pos (by decide)]
      refine hK s1 hf (sro s1 o o2) ⟨?_, fun j hj => ?_⟩
      · show s1.1 187 (b + 10388) = nI (wdF C l.2.2.2.2 i).length
        rw [wd_len]; exact h10
      · have hj : j < (wdF C l.2.2.2.2 i).length := hj
        have hz := List.getElem?_eq_getElem hj
        rw [txL_at hz]
        generalize (wdF C l.2.2.2.2 i)[j] = z at hz
        rw [ew] at hz
        exact hZ j z hz
    | succ n ih =>
      intro i' l' Z s1 hl' hlen ew hf o o2 h10 hZ u hu
      rcases hl' with q | ⟨hi', hd'⟩
      · omega
      rcases hu with q | rfl
      · omega
      have hil' := (List.getElem?_eq_some_iff.mp hi').1
      have hM1 : rM s1.2 := by rw [hf.1]; exact hM
      obtain ⟨-, -, hpar⟩ := hC.2.2.1 i' l' hi'
      obtain ⟨p, lp, ep, hpl, hp, hdp⟩ : ∃ p lp, l'.2.2.1 = nI p ∧ p < i' ∧ C[p]? = some lp ∧ l'.2.2.2.2 = lp.2.2.2.2 + 1 := by
        rcases hpar with q | q
        · omega
        · exact q
      obtain ⟨-, -, g3, g4, -⟩ := h.2.1 i' l' hi'
      refine b_188_24 ?_
      rw [if_neg (by rw [nI_lit 0, nJ_le (by omega) (by omega)]; omega)]
      refine ⟨187, ⟨so_186, rm_186_0 hM1⟩, 216, ⟨so_186, rm_186_40 hM1⟩, 301, ⟨sa_216, inR_nI (by omega) (by decide)⟩, 42882, ?_⟩
      rw [nI_lit 10388, nJ_add, nJ_add, nI_cl (show i' < 2147483648 by omega), nI_cl (show b + 10388 + (n + 1) < 2147483648 by omega), o2 216 (by decide), g4]
      refine ⟨⟨sa_187, inR_nI (by omega) (by decide)⟩, 215, ⟨so_186, rm_186_39 hM1⟩, 301, ⟨sa_215, inR_nI (by omega) (by decide)⟩, ?_⟩
      have e215 : (pV s1 187 (b + 10388 + (n + 1)) (l'.2.2.2.1 + 1)).1 215 i' = nI p := by rw [pV_1, if_neg (by omega), o2 215 (by decide), g3, ep]
      rw [e215, show nI (n + 1) + -1 = nI n from nI_dec n]
      refine ih p lp ((l'.2.2.2.1 + 1) :: Z) _ (Or.inr ⟨hp, by omega⟩) (by show n + (Z.length + 1) = _; omega) ?_ (fW_put hf (by omega)) (fun z hz => by rw [pV_1, if_neg (by omega)]; exact o z hz) (fun z hz => (funext fun j => by rw [pV_1, if_neg (by omega)]).trans (o2 z hz)) (by rw [pV_1, if_neg (by omega)]; exact h10) (fun j z hj => ?_) _ (Or.inr rfl)
      · rw [ew]
        show (wdF C n (C.getD i' cm0).2.2.1.toNatClampNeg ++ [(C.getD i' cm0).2.2.2.1 + 1]) ++ Z = _
        rw [getD_some hi', ep, nI_cl (by omega), List.append_assoc]; rfl
      · cases j with
        | zero =>
          have : l'.2.2.2.1 + 1 = z := Option.some.inj hj
          rw [pV_1, if_pos ⟨rfl, by omega⟩]; exact this
        | succ j =>
          have hj : Z[j]? = some z := hj
          rw [pV_1, if_neg (by omega), show b + 10389 + n + (j + 1) = b + 10389 + (n + 1) + j by omega]
          exact hZ j z hj
  obtain ⟨-, -, -, -, g5⟩ := h.2.1 i l hi
  refine b_188_0 ⟨217, ⟨so_186, rm_186_41 hM⟩, 301, ⟨sa_217, inR_nI (by omega) (by decide)⟩, 187, ⟨so_186, rm_186_0 hM⟩, 42882, ?_⟩
  rw [nI_lit 10388, nJ_add, nI_cl (show i < 2147483648 by omega), nI_cl (show b + 10388 < 2147483648 by omega), g5]
  exact ⟨⟨sa_187, inR_nI (by omega) (by decide)⟩, loop _ i l [] _ (Or.inr ⟨hi, rfl⟩) rfl (List.append_nil _).symm (fW_put (fW_refl b s) (by omega)) (fun z hz => by rw [pV_1, if_neg (by omega)]) (fun z hz => funext fun j => by rw [pV_1, if_neg (by omega)]) (by rw [pV_1, if_pos ⟨rfl, rfl⟩]) (fun j z hj => by cases hj) _ (Or.inr rfl)⟩
/-- the search from the first line on -/
def srR (X0 X1 : Cond) : Int32 × List cmT × List dnT := srch (tms X0) (tms X1) 300 [(0, 1, -1, 0, 0)] []
theorem srch_s (F0 F1 : List Cond) (q : Nat) (C : List cmT) (D : List dnT) {l : cmT} {y : Cond} (hi : C[D.length]? = some l) (hy : F0[l.1]? = some y) : srch F0 F1 (q + 1) C D = if memF F1 y l.2.1 = true then srch F0 F1 q C (D ++ [(0, [])]) else if full y = true ∧ anyF F1 l.2.1 = false then (1, C, D)
    else match stp D.length l.2.2.2.2 (dmL F0 F1 y l.2.1 3 0) C [] with
      | (true, C', P) => srch F0 F1 q C' (D ++ [(1, P)])
      | (false, C', _) => (2, C', D) := by
  have hil := (List.getElem?_eq_some_iff.mp hi).1
  conv => lhs; unfold srch
  rw [if_neg (by omega), getD_some hi, getD_some hy]
  rfl
theorem dm_in {F0 F1 : List Cond} {y : Cond} {S : Int32} (h : ∀ x, x < 3 → ∀ c ∈ pt y x, c ∈ F0) : ∀ q x, q + x ≤ 3 → ∀ w ∈ dmL F0 F1 y S q x, w.1 < F0.length
  | 0, x, _, w, hw => by cases hw
  | q + 1, x, hx, w, hw => by
    rcases List.mem_append.mp hw with hw | hw
    · obtain ⟨c, hc, rfl⟩ := List.mem_map.mp hw
      exact List.idxOf_lt_length_iff.mpr (h x (by omega) c hc)
    · exact dm_in h q (x + 1) (by omega) w hw
theorem rT_pt (hT : rT s T X0 X1) {t : Nat} {y : Cond} (hy : (tms X0)[t]? = some y) : ∀ x, x < 3 → ∀ c ∈ pt y x, c ∈ tms X0 := fun x hx c hc => by
  obtain ⟨k, hk⟩ := List.getElem?_of_mem hc
  exact ((hT.2.2.1.2 t y x hy hx).2.1 k c hk).1
theorem r_searches (hT : rT s T X0 X1) (c0 : cn X0) (hz : z0 X0 ≤ 30) (hb : b ≤ 10689)
    (hK : ∀ s', fW b s s' → cI (tms X0).length (srR X0 X1).2.1 (srR X0 X1).2.2 → sr s' b (srR X0 X1).2.1 (srR X0 X1).2.2 → apR (s'.1 187) b (wdO (srR X0 X1)) → K (some (srR X0 X1).1) s') : tT (yY L xs) (d + 3) 189 0 [.ref 186, .int (nI b), .null, .null, .null] [] s K := by
  have hM := hT.1.1
  have h31 := rS_31 hT.2.2.1
  have hn0 : 1 ≤ (tms X0).length := (List.getElem?_eq_some_iff.mp (tms_at0 c0 hz)).1
  have hlt := lts_30 hz
  have fin : ∀ (v : Int32 × List cmT × List dnT) (s' : sT), v = srR X0 X1 → fW b s s' → cI (tms X0).length v.2.1 v.2.2 → sr s' b v.2.1 v.2.2 → apR (s'.1 187) b (wdO v) → K (some v.1) s' := fun v s' e a1 a2 a3 a4 => by
    subst e; exact hK s' a1 a2 a3 a4
  have loop : ∀ q C D (s1 : sT) u3 u4, q + D.length = 300 → cI (tms X0).length C D → sr s1 b C D → fW b s s1 → s1.1 187 (b + 10388) = -1 → srch (tms X0) (tms X1) q C D = srR X0 X1 → tT (yY L xs) (d + 3) 189 44 [.ref 186, .int (nI b), .int (nI D.length), u3, u4] [] s1 K := by
    intro q
    induction q with
    | zero =>
      intro C D s1 u3 u4 hq hC hs hf ha hv
      have hl := hC.1
      have hM1 : rM s1.2 := by rw [hf.1]; exact hM
      refine b_189_44 ⟨187, ⟨so_186, rm_186_0 hM1⟩, 42882, ?_⟩
      rw [nI_lit 186, nJ_add, nI_cl (show b + 186 < 2147483648 by omega), hs.1, if_pos (by rw [nJ_le (by omega) (by omega)]; omega)]
      exact ⟨⟨sa_187, inR_nI (by omega) (by decide)⟩, fin (0, C, D) s1 hv hf hC hs ha⟩
    | succ q ih =>
      intro C D s1 u3 u4 hq hC hs hf ha hv
      have hl := hC.1
      have hDl := hC.2.1
      have hT1 := rT_fW hT hf
      have hM1 := hT1.1.1
      refine b_189_44 ⟨187, ⟨so_186, rm_186_0 hM1⟩, 42882, ?_⟩
      rw [nI_lit 186, nJ_add, nI_cl (show b + 186 < 2147483648 by omega), hs.1]
      refine ⟨⟨sa_187, inR_nI (by omega) (by decide)⟩, ?_⟩
      by_cases hle : C.length ≤ D.length
      · rw [if_pos (by rw [nJ_le (by omega) (by omega)]; omega)]
        refine fin (0, C, D) s1 ?_ hf hC hs ha
        rw [← hv]
        conv => rhs; unfold srch
        rw [if_pos hle]
      rw [if_neg (by rw [nJ_le (by omega) (by omega)]; omega)]
      have hi := List.getElem?_eq_getElem (show D.length < C.length by omega)
      generalize C[D.length] = l at hi
      obtain ⟨g1, g2, -⟩ := hs.2.1 _ l hi
      have hl1 := (hC.2.2.1 _ l hi).1
      have hy := List.getElem?_eq_getElem hl1
      generalize (tms X0)[l.1] = y at hy
      rw [srch_s _ _ _ _ _ hi hy] at hv
      refine ⟨187, ⟨so_186, rm_186_0 hM1⟩, 42882, ?_⟩
      rw [nI_lit 187, nI_lit 487, nJ_add, nJ_add, nJ_add, nJ_add, nI_cl (show b + 187 + D.length < 2147483648 by omega), nI_cl (show b + 487 + D.length < 2147483648 by omega), g1]
      refine ⟨⟨sa_187, inR_nI (by omega) (by decide)⟩, 187, ⟨so_186, rm_186_0 hM1⟩, 42882, ?_⟩
      rw [g2]
      refine ⟨⟨sa_187, inR_nI (by omega) (by decide)⟩, so_186, r_isMember hT1.1 hT1.2.1 hT1.2.2.1 hT1.2.2.2 hy ?_⟩
      rw [rt_some]
      have nxt : ∀ C' D' (s2 : sT) u3 u4, D'.length = D.length + 1 → cI (tms X0).length C' D' → sr s2 b C' D' → fW b s s2 → s2.1 187 (b + 10388) = -1 → srch (tms X0) (tms X1) q C' D' = srR X0 X1 → tT (yY L xs) (d + 3) 189 149 [.ref 186, .int (nI b), .int (nI D.length), .int u3, .int u4] [] s2 K := fun C' D' s2 u3 u4 e1 e2 e3 e4 e5 e6 => by
        refine b_189_149 ?_
        rw [← nI_succ D.length, ← e1]
        exact ih C' D' s2 _ _ (by omega) e2 e3 e4 e5 e6
      cases hm : memF (tms X1) y l.2.1 with
      | true =>
        rw [if_pos hm] at hv
        refine b_189_92 ?_
        rw [if_neg (by decide)]
        refine ⟨187, ⟨so_186, rm_186_0 hM1⟩, 42882, ?_⟩
        rw [nI_lit 787, nJ_add, nJ_add, nI_cl (show b + 787 + D.length < 2147483648 by omega)]
        refine ⟨⟨sa_187, inR_nI (by omega) (by decide)⟩, nxt C (D ++ [(0, [])]) _ _ _ (by rw [List.length_append]; rfl) (cI_D hC (by omega) (by decide)) ?_ (fW_put hf (by omega)) (by rw [pV_1, if_neg (by omega)]; exact ha) hv⟩
        refine sr_done hs hC (by omega) (by decide) (fun j p q => by cases q) (fun z a c => by rw [pV_1, if_neg (by omega)]) (fun z a => funext fun j => by rw [pV_1, if_neg (by omega)]) (by rw [pV_1, if_pos ⟨rfl, rfl⟩]) ?_
        rw [pV_1, if_neg (by omega), (hs.2.2.1 D.length (by omega)).2.1, dg_out (Nat.le_refl _)]
      | false =>
        rw [if_neg (by rw [hm]; decide)] at hv
        refine b_189_92 ?_
        rw [if_pos (show bz false = 0 from rfl)]
        have step : ¬ (full y = true ∧ anyF (tms X1) l.2.1 = false) → tT (yY L xs) (d + 3) 189 138 [.ref 186, .int (nI b), .int (nI D.length), .int (nI l.1), .int l.2.1] [] s1 K := fun hnf => by
          rw [if_neg hnf] at hv
          have hI := stp_I (dmL (tms X0) (tms X1) y l.2.1 3 0) C [] (dm_in (rT_pt hT hy) 3 0 (Nat.le_refl _)) hC hi rfl
          have h3 := pt_three c0 ((tms_all c0 (by omega)).2.1 y (List.mem_of_getElem? hy))
          rw [dmL_len] at hI
          refine b_189_138 ⟨so_186, tt_mono (r_steps (d := d) hT1 c0 hz hs hC hb hi hy (fun s2 C' P er f2 a2 hs2 => ?_) (fun s2 C' P er f2 a2 hs2 => ?_)) (by omega) (fun _ _ q => q)⟩
          · rw [rt_some]
            rw [er] at hv hI
            refine b_189_144 ?_
            rw [if_pos (by decide)]
            obtain ⟨i1, ⟨e, i2⟩, i3⟩ := hI
            have i2 : C' = C ++ e := i2
            have i3 : P.length ≤ 0 + _ := i3
            exact nxt C' (D ++ [(1, P)]) s2 _ _ (by rw [List.length_append]; rfl) (cI_D i1 (by rw [i2, List.length_append]; omega) (show P.length ≤ 30 by omega)) hs2 (fW_trans hf f2) (a2.trans ha) hv
          · rw [rt_some]
            rw [er] at hv hI
            refine b_189_144 ?_
            rw [if_neg (fun q => q rfl)]
            exact fin (2, C', D) s2 hv (fW_trans hf f2) hI.1 hs2 (a2.trans ha)
        refine ⟨so_186, r_isFull (σ := 0) hT1.1 hT1.2.1 hT1.2.2.1 (by decide) hy ?_⟩
        rw [rt_some]
        refine b_189_117 ?_
        cases hf' : full y with
        | false =>
          rw [if_pos (show bz false = 0 from rfl)]
          exact step (fun q => by rw [hf'] at q; cases q.1)
        | true =>
          rw [if_neg (by decide)]
          refine ⟨so_186, tt_mono (r_isFullSet (d := d) (σ := 1) hT1.1 hT1.2.1 hT1.2.2.2 (by decide) ?_) (by omega) (fun _ _ q => q)⟩
          rw [rt_some]
          refine b_189_127 ?_
          cases hany : anyF (tms X1) l.2.1 with
          | true =>
            rw [if_pos (by decide)]
            exact step (fun q => by rw [hany] at q; cases q.2)
          | false =>
            rw [if_neg (fun q => q rfl)]
            rw [if_pos ⟨hf', hany⟩] at hv
            refine ⟨so_186, r_tells hM1 hs hC hb hi (fun s2 f2 hs2 ha2 => ?_)⟩
            rw [rt_none]
            refine b_189_136 (fin (1, C, D) s2 hv (fW_trans hf f2) hC hs2 ?_)
            have : wdO (1, C, D) = some (txL (wdF C l.2.2.2.2 D.length)) := by
              unfold wdO
              rw [if_pos rfl, getD_some hi]
            rw [this]; exact ha2
  refine b_189_0 ⟨187, ⟨so_186, rm_186_0 hM⟩, 42882, ?_⟩
  rw [nI_lit 186, nI_lit 10387, nI_lit 10388, nJ_add, nJ_add, nJ_add, nI_cl (show b + 186 < 2147483648 by omega), nI_cl (show b + 10387 < 2147483648 by omega), nI_cl (show b + 10388 < 2147483648 by omega)]
  refine ⟨⟨sa_187, inR_nI (by omega) (by decide)⟩, 187, ⟨so_186, rm_186_0 hM⟩, 42882, ⟨sa_187, inR_nI (by omega) (by decide)⟩, 187, ⟨so_186, rm_186_0 hM⟩, 42882, ⟨sa_187, inR_nI (by omega) (by decide)⟩, so_186, ?_⟩
  have f1 : fW b s (pV (pV (pV s 187 (b + 186) 0) 187 (b + 10387) 0) 187 (b + 10388) (-1)) := fW_put (fW_put (fW_put (fW_refl b s) (by omega)) (by omega)) (by omega)
  have e1 : (pV (pV (pV s 187 (b + 186) 0) 187 (b + 10387) 0) 187 (b + 10388) (-1)).1 187 (b + 186) = 0 := by rw [pV_1, if_neg (by omega), pV_1, if_neg (by omega), pV_1, if_pos ⟨rfl, rfl⟩]
  have e2 : (pV (pV (pV s 187 (b + 186) 0) 187 (b + 10387) 0) 187 (b + 10388) (-1)).1 187 (b + 10387) = 0 := by rw [pV_1, if_neg (by omega), pV_1, if_pos ⟨rfl, rfl⟩]
  have e3 : (pV (pV (pV s 187 (b + 186) 0) 187 (b + 10387) 0) 187 (b + 10388) (-1)).1 187 (b + 10388) = -1 := by rw [pV_1, if_pos ⟨rfl, rfl⟩]
  generalize pV (pV (pV s 187 (b + 186) 0) 187 (b + 10387) 0) 187 (b + 10388) (-1) = s1 at f1 e1 e2 e3 ⊢
  have hM1 : rM s1.2 := by rw [f1.1]; exact hM
  have hC0 : cI (tms X0).length ([] : List cmT) ([] : List dnT) := ⟨Nat.zero_le _, Nat.le_refl _, (fun k l q => by cases q), (fun k => by rw [dg_out (Nat.zero_le _)]; exact Nat.zero_le _)⟩
  have hs0 : sr s1 b [] [] := ⟨e1, (fun k l q => by cases q), (fun k hk => absurd hk (Nat.not_lt_zero _)), e2⟩
  refine r_newLine (g := 0) (x := 0) (S := 1) (par := -1) (dp := 0) hM1 hs0 hC0 hb (by decide) (Or.inl ⟨rfl, rfl⟩) (fun s2 f2 a2 _ hs2 => ?_)
  rw [rt_none]
  exact b_189_42 (loop 300 [(0, 1, -1, 0, 0)] [] s2 _ _ rfl (cI_app hC0 (by decide) hn0 (Or.inl rfl)) hs2 (fW_trans f1 f2) (a2.trans e3) rfl)
end RS
