/-! THE REFERENCE'S NODES: its row; the search for a node that is kept -/
section RN
variable {L : Nat} {xs : Nat → Int32} {d : Nat} {s : sT} {K : Option Int32 → sT → Prop}
/-- the row: numbers of nodes -/
def rwO (v : Nat → Nat → Int32) (js : List Nat) : Prop := v 186 19 = nI js.length ∧ ∀ i, i < js.length → v 200 i = nI (js.getD i 0)
theorem getD_mem {js : List Nat} {i : Nat} (h : i < js.length) : js.getD i 0 ∈ js := by
  rw [List.getD_eq_getElem?_getD, List.getElem?_eq_getElem h]
  exact List.getElem_mem _
theorem mem_getD {js : List Nat} {j : Nat} (h : j ∈ js) : ∃ i, i < js.length ∧ js.getD i 0 = j := by
  obtain ⟨i, hi⟩ := List.getElem?_of_mem h
  have hl := (List.getElem?_eq_some_iff.mp hi).1
  exact ⟨i, hl, by rw [List.getD_eq_getElem?_getD, hi]; rfl⟩
/-- a number behind the row -/
def rwPut (s : sT) (js : List Nat) (j : Nat) : sT := pV (pV s 200 js.length (nI j)) 186 19 (nI (js.length + 1))
theorem rwO_put {js : List Nat} {j : Nat} (h : rwO s.1 js) : rwO (rwPut s js j).1 (js ++ [j]) := by
  refine ⟨?_, fun i hi => ?_⟩
  · unfold rwPut; rw [pV_1, if_pos ⟨rfl, rfl⟩, List.length_append]; rfl
  · unfold rwPut
    rw [pV_1, if_neg (by omega), pV_1]
    rw [List.length_append, List.length_singleton] at hi
    by_cases e : i = js.length
    · subst e
      rw [if_pos ⟨rfl, rfl⟩, List.getD_eq_getElem?_getD, List.getElem?_append_right (Nat.le_refl _), Nat.sub_self]; rfl
    · rw [if_neg (fun q => e q.2), h.2 i (by omega), List.getD_eq_getElem?_getD, List.getD_eq_getElem?_getD, List.getElem?_append_left (by omega)]
theorem r_put {js : List Nat} {j : Nat} {x2 x3 : Int32} (hM : rM s.2) (hr : rwO s.1 js) (hl : js.length < 400) (h : K none (rwPut s js j)) : tT (yY L xs) d 157 31 [.ref 186, .int (nI j), .int x2, .int x3] [] s K := by
  refine b_157_31 ⟨200, ⟨so_186, rm_186_18 hM⟩, so_186, 400, ?_⟩
  rw [hr.1, nI_cl (by omega)]
  refine ⟨⟨sa_200, inR_nI hl (by decide)⟩, so_186, so_186, ?_⟩
  rw [pV_1, if_neg (by omega), hr.1, ← nI_succ]
  exact h
theorem r_notes0 {js : List Nat} {j : Nat} (hM : rM s.2) (hr : rwO s.1 js) (hl : js.length < 400) (h : K none (rwPut s js j)) : tT (yY L xs) d 157 0 [.ref 186, .int (nI j), .int 0, .null] [] s K := by
  refine b_157_0 (b_157_2 ⟨so_186, ?_⟩)
  split
  · exact r_put hM hr hl h
  · rw [if_pos rfl]; exact r_put hM hr hl h
theorem r_notes1 {js : List Nat} {j : Nat} (hM : rM s.2) (hr : rwO s.1 js) (hl : js.length < 400) (hj : j < 100000) (hjs : ∀ q ∈ js, q < 100000) (h : K none (if j ∈ js then s else rwPut s js j)) : tT (yY L xs) d 157 0 [.ref 186, .int (nI j), .int 1, .null] [] s K := by
  have loop : ∀ q i, q + i = js.length → (∀ t, t < i → js.getD t 0 ≠ j) → tT (yY L xs) d 157 2 [.ref 186, .int (nI j), .int 1, .int (nI i)] [] s K := by
    intro q
    induction q with
    | zero =>
      intro i hi hn
      refine b_157_2 ⟨so_186, ?_⟩
      rw [hr.1, if_pos (by rw [nJ_le (by omega) (by omega)]; omega)]
      rw [if_neg (fun hm => by
        obtain ⟨t, ht, e⟩ := mem_getD hm
        exact hn t (by omega) e)] at h
      exact r_put hM hr hl h
    | succ q ih =>
      intro i hi hn
      refine b_157_2 ⟨so_186, ?_⟩
      rw [hr.1, if_neg (by rw [nJ_le (by omega) (by omega)]; omega), if_neg (by decide)]
      refine ⟨200, ⟨so_186, rm_186_18 hM⟩, 400, ?_⟩
      rw [nI_cl (by omega), hr.2 i (by omega)]
      refine ⟨⟨sa_200, inR_nI (by omega) (by decide)⟩, ?_⟩
      have hlt := hjs _ (getD_mem (show i < js.length by omega))
      by_cases e : js.getD i 0 = j
      · rw [if_neg (by rw [nJ_eq (by omega) (by omega)]; exact fun q => q e)]
        rw [if_pos (by rw [← e]; exact getD_mem (by omega))] at h
        exact h
      · rw [if_pos (by rw [nJ_eq (by omega) (by omega)]; exact e)]
        have := ih (i + 1) (by omega) (fun t ht => by
          by_cases et : t = i
          · subst et; exact e
          · exact hn t (by omega))
        rw [nI_succ] at this
        exact this
  exact b_157_0 (loop js.length 0 rfl (fun t ht => absurd ht (Nat.not_lt_zero _)))
/-- node k is of this kind, and has the row's n as its parts -/
def mtN (v : Nat → Nat → Int32) (how : Int32) (n : Nat) (fr : Nat → Nat) (k : Nat) : Prop := v 190 k = how ∧ v 192 k = nI n ∧ ∀ i, i < n → v 195 (fr k + i) = v 200 i
theorem r_keptF {N n : Nat} {how : Int32} {fr : Nat → Nat} (hM : rM s.2) (hN : s.1 186 12 = nI N) (hN2 : N ≤ 1500) (hn : n ≤ 400) (hfr : ∀ k, k < N → s.1 191 k = nI (fr k) ∧ (s.1 192 k = nI n → fr k + n ≤ 24000))
    (h1 : ∀ k, k < N → mtN s.1 how n fr k → K (some (nI k)) s) (h2 : (∀ k, k < N → ¬ mtN s.1 how n fr k) → tT (yY L xs) d 154 0 [.ref 186, .int how, .int (nI n), .null, .null] [] s (fun r s1 => ∃ x, r = some x ∧ K (some x) s1)) : tT (yY L xs) (d + 1) 156 0 [.ref 186, .int how, .int (nI n), .null, .null, .null] [] s K := by
  have loop : ∀ q k (u4 u5 : Value), q + k = N → (∀ t, t < k → ¬ mtN s.1 how n fr t) → tT (yY L xs) (d + 1) 156 2 [.ref 186, .int how, .int (nI n), .int (nI k), u4, u5] [] s K := by
    intro q
    induction q with
    | zero =>
      intro k u4 u5 hk hno
      refine b_156_2 ⟨so_186, ?_⟩
      rw [hN, if_pos (by rw [nJ_le (by omega) (by omega)]; omega)]
      refine ⟨so_186, tt_mono (h2 (fun t ht => hno t (by omega))) (Nat.le_refl _) (fun r s1 hr => ?_)⟩
      obtain ⟨x, rfl, hx⟩ := hr
      rw [rt_some]
      exact b_156_107 hx
    | succ q ih =>
      intro k u4 u5 hk hno
      have hkN : k < N := by omega
      obtain ⟨f1, f2⟩ := hfr k hkN
      have next : ∀ x4 x5 : Value, ¬ mtN s.1 how n fr k → tT (yY L xs) (d + 1) 156 2 [.ref 186, .int how, .int (nI n), .int (nI (k + 1)), x4, x5] [] s K := fun x4 x5 hk' => ih (k + 1) x4 x5 (by omega) (fun t ht => by
        by_cases e : t = k
        · subst e; exact hk'
        · exact hno t (by omega))
      have out : ∀ x5 : Int32, ¬ mtN s.1 how n fr k → tT (yY L xs) (d + 1) 156 88 [.ref 186, .int how, .int (nI n), .int (nI k), .int 0, .int x5] [] s K := fun x5 hk' => by
        refine b_156_88 ?_
        rw [if_pos rfl]
        have := next (.int 0) (.int x5) hk'
        rw [nI_succ] at this
        exact this
      have zero40 : ∀ x5 : Int32, ¬ mtN s.1 how n fr k → tT (yY L xs) (d + 1) 156 40 [.ref 186, .int how, .int (nI n), .int (nI k), .int 0, .int x5] [] s K := fun x5 hk' => by
        refine b_156_40 ?_
        split
        · exact out x5 hk'
        · rw [if_pos rfl]; exact out x5 hk'
      refine b_156_2 ⟨so_186, ?_⟩
      rw [hN, if_neg (by rw [nJ_le (by omega) (by omega)]; omega)]
      refine ⟨190, ⟨so_186, rm_186_5 hM⟩, 1500, ?_⟩
      rw [nI_cl (by omega)]
      refine ⟨⟨sa_190, inR_nI (by omega) (by decide)⟩, ?_⟩
      by_cases hkd : s.1 190 k = how
      · rw [if_neg (fun q => q hkd)]
        refine ⟨192, ⟨so_186, rm_186_7 hM⟩, 1500, ⟨sa_192, inR_nI (by omega) (by decide)⟩, ?_⟩
        by_cases hmn : s.1 192 k = nI n
        · rw [if_neg (fun q => q hmn)]
          refine b_156_35 ?_
          have hfn := f2 hmn
          have inner : ∀ q i, q + i = n → (∀ t, t < i → s.1 195 (fr k + t) = s.1 200 t) → tT (yY L xs) (d + 1) 156 40 [.ref 186, .int how, .int (nI n), .int (nI k), .int 1, .int (nI i)] [] s K := by
            intro q
            induction q with
            | zero =>
              intro i hi he
              refine b_156_40 ?_
              rw [if_pos (by rw [nJ_le (by omega) (by omega)]; omega)]
              refine b_156_88 ?_
              rw [if_neg (by decide)]
              exact h1 k hkN ⟨hkd, hmn, fun t ht => he t (by omega)⟩
            | succ q ih2 =>
              intro i hi he
              refine b_156_40 ?_
              rw [if_neg (by rw [nJ_le (by omega) (by omega)]; omega), if_neg (by decide)]
              refine ⟨195, ⟨so_186, rm_186_10 hM⟩, 191, ⟨so_186, rm_186_6 hM⟩, 1500, ?_⟩
              rw [nI_cl (show k < 2147483648 by omega), f1, nJ_add, nI_cl (show fr k + i < 2147483648 by omega), nI_cl (show i < 2147483648 by omega)]
              refine ⟨⟨sa_191, inR_nI (by omega) (by decide)⟩, 24000, ⟨sa_195, inR_nI (by omega) (by decide)⟩, 200, ⟨so_186, rm_186_18 hM⟩, 400, ⟨sa_200, inR_nI (by omega) (by decide)⟩, ?_⟩
              by_cases e : s.1 195 (fr k + i) = s.1 200 i
              · rw [if_neg (fun q => q e)]
                refine b_156_80 ?_
                have := ih2 (i + 1) (by omega) (fun t ht => by
                  by_cases et : t = i
                  · subst et; exact e
                  · exact he t (by omega))
                rw [nI_succ] at this
                exact this
              · rw [if_pos e]
                refine b_156_80 ?_
                exact zero40 _ (fun hm => e (hm.2.2 i (by omega)))
          exact inner n 0 rfl (fun t ht => absurd ht (Nat.not_lt_zero _))
        · rw [if_pos hmn]
          exact b_156_34 (b_156_35 (zero40 _ (fun hm => hmn hm.2.1)))
      · rw [if_pos hkd]
        exact b_156_34 (b_156_35 (zero40 _ (fun hm => hkd hm.1)))
  exact b_156_0 (loop N 0 .null .null rfl (fun t ht => absurd ht (Nat.not_lt_zero _)))
end RN
