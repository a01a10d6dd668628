/-! THE SEARCH, by the reference -/
theorem dmL_len (F0 F1 : List Cond) (y : Cond) (S : Int32) : (dmL F0 F1 y S 3 0).length = (pt y 0).length + (pt y 1).length + (pt y 2).length := by
  simp only [dmL, List.length_append, List.length_map, List.length_nil]
  omega
/-- one step of stp -/
theorem stp_some {i dp : Nat} {w : Nat × Int32 × Nat} {W : List (Nat × Int32 × Nat)} {C : List cmT} {P : List Nat} {k : Nat} (h : fnd C w.1 w.2.1 = some k) : stp i dp (w :: W) C P = stp i dp W C (P ++ [k]) := by
  show (match fnd C w.1 w.2.1 with | some k => _ | none => _) = _
  rw [h]
theorem stp_new {i dp : Nat} {w : Nat × Int32 × Nat} {W : List (Nat × Int32 × Nat)} {C : List cmT} {P : List Nat} (h : fnd C w.1 w.2.1 = none) (h3 : C.length < 300) : stp i dp (w :: W) C P = stp i dp W (C ++ [(w.1, w.2.1, nI i, nI w.2.2, dp + 1)]) (P ++ [C.length]) := by
  show (match fnd C w.1 w.2.1 with | some k => _ | none => _) = _
  rw [h]
  exact if_pos h3
theorem stp_no {i dp : Nat} {w : Nat × Int32 × Nat} {W : List (Nat × Int32 × Nat)} {C : List cmT} {P : List Nat} (h : fnd C w.1 w.2.1 = none) (h3 : ¬ C.length < 300) : stp i dp (w :: W) C P = (false, C, P) := by
  show (match fnd C w.1 w.2.1 with | some k => _ | none => _) = _
  rw [h]
  exact if_neg h3
/-- what a step keeps -/
theorem stp_I {n0 i dp : Nat} {D : List dnT} {l : cmT} : ∀ (W : List (Nat × Int32 × Nat)) (C : List cmT) (P : List Nat), (∀ w ∈ W, w.1 < n0) → cI n0 C D → C[i]? = some l → l.2.2.2.2 = dp → cI n0 (stp i dp W C P).2.1 D ∧ (∃ e, (stp i dp W C P).2.1 = C ++ e) ∧ (stp i dp W C P).2.2.length ≤ P.length + W.length
  | [], C, P, _, hC, _, _ => ⟨hC, ⟨[], (List.append_nil C).symm⟩, Nat.le_refl _⟩
  | w :: W, C, P, hW, hC, hi, hd => by
    have hil := (List.getElem?_eq_some_iff.mp hi).1
    cases hf : fnd C w.1 w.2.1 with
    | some k =>
      rw [stp_some hf]
      obtain ⟨a, b, c⟩ := stp_I W C (P ++ [k]) (fun z hz => hW z (List.mem_cons_of_mem _ hz)) hC hi hd
      refine ⟨a, b, ?_⟩
      simp only [List.length_append, List.length_cons, List.length_nil] at c ⊢
      omega
    | none =>
      by_cases h3 : C.length < 300
      · rw [stp_new hf h3]
        obtain ⟨a, ⟨e, b⟩, c⟩ := stp_I W (C ++ [(w.1, w.2.1, nI i, nI w.2.2, dp + 1)]) (P ++ [C.length]) (fun z hz => hW z (List.mem_cons_of_mem _ hz)) (cI_app hC h3 (hW w List.mem_cons_self) (Or.inr ⟨i, l, rfl, hil, hi, by rw [hd]⟩)) (app_in hi) hd
        refine ⟨a, ⟨_, by rw [b, List.append_assoc]⟩, ?_⟩
        simp only [List.length_append, List.length_cons, List.length_nil] at c ⊢
        omega
      · rw [stp_no hf h3]
        refine ⟨hC, ⟨[], (List.append_nil C).symm⟩, by simp only; omega⟩
theorem drop_at {α : Type} {l : List α} {k : Nat} {c : α} (h : l[k]? = some c) : l.drop k = c :: l.drop (k + 1) := by
  obtain ⟨h1, h2⟩ := List.getElem?_eq_some_iff.mp h
  rw [List.drop_eq_getElem_cons h1, h2]
section RS
variable {L : Nat} {xs : Nat → Int32} {d : Nat} {s : sT} {K : Option Int32 → sT → Prop} {T : List Cond} {X0 X1 : Cond} {b n0 : Nat} {C : List cmT} {D : List dnT}
theorem sr_prem {j : Nat} {v : Int32} (h : sr s b C D) (hC : cI n0 C D) (hi : D.length < C.length) (hj : j < 30) : sr (pV s 187 (b + 1387 + 30 * D.length + j) v) b C D := by
  obtain ⟨h1, h2, h3, h4⟩ := h
  have hl := hC.1
  have o : ∀ z, z ≠ b + 1387 + 30 * D.length + j → (pV s 187 (b + 1387 + 30 * D.length + j) v).1 187 z = s.1 187 z := fun z hz => by rw [pV_1, if_neg (by omega)]
  have o2 : ∀ z, z ≠ 187 → (pV s 187 (b + 1387 + 30 * D.length + j) v).1 z = s.1 z := fun z hz => funext fun j => by rw [pV_1, if_neg (by omega)]
  refine ⟨by rw [o _ (by omega)]; exact h1, fun k l hk => ?_, fun k hk => ?_, by rw [o _ (by omega)]; exact h4⟩
  · have := (List.getElem?_eq_some_iff.mp hk).1
    rw [o _ (by omega), o _ (by omega), o2 215 (by decide), o2 216 (by decide), o2 217 (by decide)]
    exact h2 k l hk
  · obtain ⟨g1, g2, g3⟩ := h3 k hk
    rw [o _ (by omega), o _ (by omega)]
    refine ⟨g1, g2, fun j' p q => ?_⟩
    have hp := hC.2.2.2 k
    have := (List.getElem?_eq_some_iff.mp q).1
    by_cases ek : k = D.length
    · subst ek
      rw [dg_out (Nat.le_refl _)] at q
      cases q
    · rw [o _ (by omega)]
      exact g3 j' p q
/-- the line is decided -/
theorem sr_done {r : Int32} {P : List Nat} {s' : sT} (h : sr s b C D) (hC : cI n0 C D) (hi : D.length < C.length) (hP : P.length ≤ 30) (hp : ∀ j p, P[j]? = some p → s.1 187 (b + 1387 + 30 * D.length + j) = nI p)
    (o : ∀ z, z ≠ b + 787 + D.length → z ≠ b + 1087 + D.length → s'.1 187 z = s.1 187 z) (o2 : ∀ z, z ≠ 187 → s'.1 z = s.1 z) (e1 : s'.1 187 (b + 787 + D.length) = r) (e2 : s'.1 187 (b + 1087 + D.length) = nI P.length) : sr s' b C (D ++ [(r, P)]) := by
  obtain ⟨h1, h2, h3, h4⟩ := h
  have hl := hC.1
  refine ⟨by rw [o _ (by omega) (by omega)]; exact h1, fun k l hk => ?_, fun k hk => ?_, by rw [o _ (by omega) (by omega)]; exact h4⟩
  · have := (List.getElem?_eq_some_iff.mp hk).1
    rw [o _ (by omega) (by omega), o _ (by omega) (by omega), o2 215 (by decide), o2 216 (by decide), o2 217 (by decide)]
    exact h2 k l hk
  · rw [dg_app]
    by_cases ek : k = D.length
    · subst ek
      rw [if_pos rfl]
      refine ⟨e1, e2, fun j p q => ?_⟩
      have := (List.getElem?_eq_some_iff.mp q).1
      have : j < P.length := this
      rw [o _ (by omega) (by omega)]
      exact hp j p q
    · rw [if_neg ek]
      obtain ⟨g1, g2, g3⟩ := h3 k hk
      refine ⟨by rw [o _ (by omega) (by omega)]; exact g1, by rw [o _ (by omega) (by omega)]; exact g2, fun j p q => ?_⟩
      have := (List.getElem?_eq_some_iff.mp q).1
      have hp := hC.2.2.2 k
      rw [o _ (by omega) (by omega)]
      exact g3 j p q
theorem r_steps {y : Cond} {l : cmT} (hT : rT s T X0 X1) (c0 : cn X0) (hz : z0 X0 ≤ 30) (h : sr s b C D) (hC : cI (tms X0).length C D) (hb : b ≤ 10689) (hi : C[D.length]? = some l) (hy : (tms X0)[l.1]? = some y)
    (h1 : ∀ s' C' P, stp D.length l.2.2.2.2 (dmL (tms X0) (tms X1) y l.2.1 3 0) C [] = (true, C', P) → fW b s s' → s'.1 187 (b + 10388) = s.1 187 (b + 10388) → sr s' b C' (D ++ [(1, P)]) → K (some 1) s')
    (h0 : ∀ s' C' P, stp D.length l.2.2.2.2 (dmL (tms X0) (tms X1) y l.2.1 3 0) C [] = (false, C', P) → fW b s s' → s'.1 187 (b + 10388) = s.1 187 (b + 10388) → sr s' b C' D → K (some 0) s') : tT (yY L xs) (d + 1) 187 0 [.ref 186, .int (nI b), .int (nI D.length), .null, .null, .null, .null, .null, .null, .null, .null] [] s K := by
  have hil := (List.getElem?_eq_some_iff.mp hi).1
  have hl := hC.1
  have h31 := rS_31 hT.2.2.1
  have htl := (List.getElem?_eq_some_iff.mp hy).1
  have h3 := pt_three c0 ((tms_all c0 (by have := lts_30 hz; omega)).2.1 y (List.mem_of_getElem? hy))
  have hlt := lts_30 hz
  have hWl := dmL_len (tms X0) (tms X1) y l.2.1
  generalize hres : stp D.length l.2.2.2.2 (dmL (tms X0) (tms X1) y l.2.1 3 0) C [] = res at h1 h0
  generalize hS : l.2.1 = S at hres hWl
  -- what holds between
  have inv : ∀ q x k C1 (P1 : List Nat) (s1 : sT) u9 u10, q + (x + 1) = 3 → k ≤ (pt y x).length → P1.length + (((pt y x).drop k).map (fun z => ((tms X0).idxOf z, pso (tms X1) S x (tms X1).length, x)) ++ dmL (tms X0) (tms X1) y S q (x + 1)).length ≤ 30 → cI (tms X0).length C1 D → C1[D.length]? = some l → sr s1 b C1 D → fW b s s1 → s1.1 187 (b + 10388) = s.1 187 (b + 10388) → (∀ j p, P1[j]? = some p → s1.1 187 (b + 1387 + 30 * D.length + j) = nI p) →
      stp D.length l.2.2.2.2 (((pt y x).drop k).map (fun z => ((tms X0).idxOf z, pso (tms X1) S x (tms X1).length, x)) ++ dmL (tms X0) (tms X1) y S q (x + 1)) C1 P1 = res → tT (yY L xs) (d + 1) 187 57 [.ref 186, .int (nI b), .int (nI D.length), .int S, .int (nI P1.length), .int (nI x), .int (pso (tms X1) S x (tms X1).length), .int (nI (3 * l.1 + x)), .int (nI k), u9, u10] [] s1 K := by
    intro q
    induction q with
    | zero => sorry
    | succ q ih => sorry
  sorry
end RS
