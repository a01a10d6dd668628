/-! A ROW OF NODES AND THE SHAPES THAT THEY ARE -/
def rwT (T : List Cond) (js : List Nat) (cs : List Cond) : Prop := js.length = cs.length ∧ ∀ i, i < js.length → T[js.getD i 0]? = cs[i]?
theorem rwT_nil (T : List Cond) : rwT T [] [] := ⟨rfl, fun i hi => absurd hi (Nat.not_lt_zero _)⟩
theorem rwT_snoc {T : List Cond} {js : List Nat} {cs : List Cond} {j : Nat} {c : Cond} (h : rwT T js cs) (hj : T[j]? = some c) : rwT T (js ++ [j]) (cs ++ [c]) := by
  obtain ⟨h1, h2⟩ := h
  refine ⟨by rw [List.length_append, List.length_append, h1]; rfl, fun i hi => ?_⟩
  rw [List.length_append, List.length_singleton] at hi
  by_cases e : i = js.length
  · subst e
    rw [List.getD_eq_getElem?_getD, List.getElem?_append_right (Nat.le_refl _), Nat.sub_self, List.getElem?_append_right (by omega), h1, Nat.sub_self]
    exact hj
  · rw [List.getD_eq_getElem?_getD, List.getElem?_append_left (by omega), ← List.getD_eq_getElem?_getD, List.getElem?_append_left (by omega)]
    exact h2 i (by omega)
theorem rwT_mem {T : List Cond} {js : List Nat} {cs : List Cond} {j : Nat} {c : Cond} (hn : T.Nodup) (h : rwT T js cs) (hj : T[j]? = some c) : j ∈ js ↔ c ∈ cs := by
  obtain ⟨h1, h2⟩ := h
  constructor
  · intro hm
    obtain ⟨i, hi, e⟩ := mem_getD hm
    have := h2 i hi
    rw [e, hj] at this
    exact List.mem_of_getElem? this.symm
  · intro hm
    obtain ⟨i, hi⟩ := List.getElem?_of_mem hm
    have hl := (List.getElem?_eq_some_iff.mp hi).1
    have := h2 i (by omega)
    rw [hi, ← hj] at this
    have e : j = js.getD i 0 := (List.getElem?_inj (List.getElem?_eq_some_iff.mp hj).1 hn).mp this.symm
    rw [e]
    exact getD_mem (by omega)
/-- a table that grows keeps its numbers -/
theorem rwT_app {T e : List Cond} {js : List Nat} {cs : List Cond} (h : rwT T js cs) : rwT (T ++ e) js cs := by
  obtain ⟨h1, h2⟩ := h
  refine ⟨h1, fun i hi => ?_⟩
  have := h2 i hi
  have hc : cs[i]? = some (cs[i]'(by omega)) := List.getElem?_eq_getElem (by omega)
  rw [hc] at this ⊢
  rw [List.getElem?_append_left (List.getElem?_eq_some_iff.mp this).1]
  exact this
