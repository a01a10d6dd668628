section RL
variable {L : Nat} {xs : Nat → Int32} {d : Nat} {s : sT} {K : Option Int32 → sT → Prop}
/-- THE NODE OF A SHAPE, with its children in the row: found, or made -/
theorem r_kept {T : List Cond} {off : Nat → Nat} {p : Nat} {y : Cond} {js : List Nat} (hM : rM s.2) (hT : rN s.1 T off p) (hp : p + (chl y).length ≤ 24000) (hl : T.length < 1500) (cy : cn y) (h3 : 3 ≤ kd y) (hn : (chl y).length ≤ 400) (hrow : ∀ i, i < js.length → s.1 200 i = nI (js.getD i 0)) (hjl : js.length = (chl y).length) (hjs : ∀ i, i < js.length → T[js.getD i 0]? = (chl y)[i]?) (hb : ∀ i, i ≤ (chl y).length → acS (kd y) (chl y) i < 100000 ∧ acD (chl y) i < 100000) (hb2 : ∀ z ∈ chl y, shN z < 100000 ∧ ns z < 100000 ∧ z ≠ S0)
    (h1 : ∀ k, T[k]? = some y → K (some (nI k)) s) (h2 : y ∉ T → ∀ s', rN s'.1 (T ++ [y]) (fun k => if k = T.length then p else off k) (p + (chl y).length) → frN s s' T.length → K (some (nI T.length)) s') : tT (yY L xs) (d + 2) 156 0 [.ref 186, .int (nI (kd y)), .int (nI (chl y).length), .null, .null, .null] [] s K := by
  have hmt := fun k (hk : k < T.length) => rN_mt (k := k) hT (by omega) (by omega) cy h3 hn hjl hrow hjs hk
  have h6 := hT.2.2.2.2.2
  have hcd : ∀ i, i < (chl y).length → ∃ c, (chl y)[i]? = some c ∧ (chl y).getD i S0 = c ∧ c ∈ chl y := fun i hi => ⟨(chl y)[i], List.getElem?_eq_getElem hi, by rw [List.getD_eq_getElem?_getD, List.getElem?_eq_getElem hi]; rfl, List.getElem_mem _⟩
  refine r_keptF (N := T.length) (fr := off) hM hT.1 (by omega) hn (fun k hk => ?_) (fun k hk hm => h1 k ((hmt k hk).mp hm)) (fun hno => ?_)
  · obtain ⟨x, hx⟩ : ∃ x, T[k]? = some x := ⟨T[k], List.getElem?_eq_getElem hk⟩
    obtain ⟨hnd, ho⟩ := h6 k x hx
    refine ⟨hnd.2.1, fun e => ?_⟩
    rw [hnd.2.2.1, nJ_eq (by omega) (by omega)] at e
    omega
  · have hy : y ∉ T := fun hm => by
      obtain ⟨k, hk⟩ := List.getElem?_of_mem hm
      have hkl := (List.getElem?_eq_some_iff.mp hk).1
      exact hno k hkl ((hmt k hkl).mpr hk)
    have hh : kd y = 3 ∨ kd y = 4 ∨ kd y = 5 := by have := kd_le y; omega
    have hlt : ∀ i, i < (chl y).length → js.getD i 0 < T.length := fun i hi => by
      obtain ⟨c, hc, -, -⟩ := hcd i hi
      have := hjs i (by omega)
      rw [hc] at this
      exact (List.getElem?_eq_some_iff.mp this).1
    refine r_adds (js := js) (l := chl y) hM hl hp hn hh hT.1 hT.2.1 hlt (fun i hi => hrow i (by omega)) (fun i hi => ?_) hb (fun i hi => ?_) (fun s3 hA hS hD hF => ⟨_, rfl, ?_⟩)
    · obtain ⟨c, hc, hc2, hc3⟩ := hcd i hi
      have hji := hjs i (by omega)
      rw [hc] at hji
      obtain ⟨hnd, -⟩ := h6 _ c hji
      rw [hc2]
      refine ⟨?_, hnd.2.2.2.2.1, hnd.2.2.2.2.2.1⟩
      rw [hnd.2.2.2.1]
      unfold sh
      rw [if_neg (hb2 c hc3).2.2]
    · obtain ⟨c, hc, hc2, hc3⟩ := hcd i hi
      rw [hc2]
      exact ⟨(hb2 c hc3).1, (hb2 c hc3).2.1⟩
    · obtain ⟨r1, r2⟩ := rN_add hT cy h3 hy hjl hjs hA hS hD hF
      exact h2 hy _ r1 r2
end RL
