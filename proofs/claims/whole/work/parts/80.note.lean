section RO
variable {L : Nat} {xs : Nat → Int32} {d : Nat} {s : sT} {K : Option Int32 → sT → Prop}
/-- only the row changes -/
def frR (s s' : sT) : Prop := s'.2 = s.2 ∧ (∀ z, z ≠ 186 → z ≠ 200 → s'.1 z = s.1 z) ∧ ∀ z, z ≠ 19 → s'.1 186 z = s.1 186 z
theorem frR_refl (s : sT) : frR s s := ⟨rfl, fun _ _ _ => rfl, fun _ _ => rfl⟩
theorem frR_trans {s1 s2 : sT} (h1 : frR s s1) (h2 : frR s1 s2) : frR s s2 := ⟨h2.1.trans h1.1, fun z a b => (h2.2.1 z a b).trans (h1.2.1 z a b), fun z a => (h2.2.2 z a).trans (h1.2.2 z a)⟩
theorem frR_put {js : List Nat} {j : Nat} : frR s (rwPut s js j) := ⟨rfl, fun z h1 h2 => by funext t; unfold rwPut; rw [pV_1, if_neg (fun q => h1 q.1), pV_1, if_neg (fun q => h2 q.1)], fun z hz => by unfold rwPut; rw [pV_1, if_neg (fun q => hz q.2), pV_1, if_neg (by omega)]⟩
theorem rwT_lt {T : List Cond} {js : List Nat} {cs : List Cond} (h : rwT T js cs) : ∀ q ∈ js, q < T.length := by
  intro q hq
  obtain ⟨i, hi, e⟩ := mem_getD hq
  have h1 := h.1
  have := h.2 i hi
  rw [e, List.getElem?_eq_getElem (show i < cs.length by omega)] at this
  exact (List.getElem?_eq_some_iff.mp this).1
/-- a shape behind the row, but once -/
theorem r_note {T : List Cond} {js : List Nat} {cs : List Cond} {j : Nat} {c : Cond} (hM : rM s.2) (hr : rwO s.1 js) (ht : rwT T js cs) (hn : T.Nodup) (hT : T.length ≤ 1500) (hj : T[j]? = some c) (hl : js.length < 400) (h : ∀ s' js', rwO s'.1 js' → rwT T js' (ddp cs [c]) → frR s s' → K none s') : tT (yY L xs) d 157 0 [.ref 186, .int (nI j), .int 1, .null] [] s K := by
  have hjl := (List.getElem?_eq_some_iff.mp hj).1
  refine r_notes1 hM hr hl (by omega) (fun q hq => by have := rwT_lt ht q hq; omega) ?_
  have hm := rwT_mem hn ht hj
  have e : ddp cs [c] = if c ∈ cs then cs else cs ++ [c] := by rw [ddp_cons]; rfl
  rw [e] at h
  by_cases hc : c ∈ cs
  · rw [if_pos (hm.mpr hc)]
    rw [if_pos hc] at h
    exact h s js hr ht (frR_refl s)
  · rw [if_neg (fun q => hc (hm.mp q))]
    rw [if_neg hc] at h
    exact h _ _ (rwO_put hr) (rwT_snoc ht hj) frR_put
/-- a shape behind the row -/
theorem r_note0 {T : List Cond} {js : List Nat} {cs : List Cond} {j : Nat} {c : Cond} (hM : rM s.2) (hr : rwO s.1 js) (ht : rwT T js cs) (hj : T[j]? = some c) (hl : js.length < 400) (h : ∀ s' js', rwO s'.1 js' → rwT T js' (cs ++ [c]) → frR s s' → K none s') : tT (yY L xs) d 157 0 [.ref 186, .int (nI j), .int 0, .null] [] s K :=
  r_notes0 hM hr hl (h _ _ (rwO_put hr) (rwT_snoc ht hj) frR_put)
end RO
