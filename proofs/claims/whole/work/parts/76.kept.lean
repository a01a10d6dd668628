section RK
variable {L : Nat} {xs : Nat → Int32} {d : Nat} {s : sT} {K : Option Int32 → sT → Prop}
/-- what a new node N leaves as it was -/
def frN (s s' : sT) (N : Nat) : Prop := s'.2 = s.2 ∧ (∀ z, z ≠ 186 → (z < 190 ∨ 196 < z) → z ≠ 198 → s'.1 z = s.1 z) ∧ (∀ z, z ≠ 12 → z ≠ 13 → s'.1 186 z = s.1 186 z) ∧ (∀ t, (t < 3 * N ∨ 3 * N + 3 ≤ t) → s'.1 198 t = s.1 198 t) ∧ ∀ x, x < 3 → s'.1 198 (3 * N + x) = -1
theorem chl_atom {z : Cond} (h : kd z < 3) : chl z = [] := by
  cases z with
  | or a b => exact absurd h (show ¬ 3 < 3 by decide)
  | and a b => exact absurd h (show ¬ 4 < 3 by decide)
  | not a => exact absurd h (show ¬ 5 < 3 by decide)
  | _ => rfl
theorem kd_atom (k : Nat) : kd (.count k) < 3 := by
  show (if k = 0 then 0 else if k = 1 then 1 else 2) < 3
  split
  · omega
  · split <;> omega
theorem chl_nch (z : Cond) : (chl z).length ≤ nch z := by
  by_cases h : 3 ≤ kd z
  · rw [nch_3 h]; exact Nat.le_refl _
  · rw [chl_atom (by omega)]; exact Nat.zero_le _
theorem rN_add {T : List Cond} {off : Nat → Nat} {p : Nat} {y : Cond} {js : List Nat} {s3 : sT} (hT : rN s.1 T off p) (cy : cn y) (h3 : 3 ≤ kd y) (hy : y ∉ T) (hjl : js.length = (chl y).length) (hjs : ∀ i, i < js.length → T[js.getD i 0]? = (chl y)[i]?) (hA : ad0 s s3 T.length p (chl y).length (kd y) (p + (chl y).length) (chl y).length 3 js)
    (hS : s3.1 193 T.length = nI (if kd y = 5 then 0 else acS (kd y) (chl y) (chl y).length)) (hD : s3.1 194 T.length = nI (acD (chl y) (chl y).length + if kd y = 5 then 1 else 0)) (hF : s3.1 196 T.length = bz (acF (kd y) (chl y) (chl y).length)) :
    rN (pV s3 186 12 (nI (T.length + 1))).1 (T ++ [y]) (fun k => if k = T.length then p else off k) (p + (chl y).length) ∧ frN s (pV s3 186 12 (nI (T.length + 1))) T.length := by
  obtain ⟨t1, t2, t3, t4, t5, t6⟩ := hT
  obtain ⟨a1, a2, a3, a4, a5, ⟨a6, a7, a8⟩, a9, b1, b2, b3⟩ := hA
  have up : ∀ z t, z ≠ 186 → (pV s3 186 12 (nI (T.length + 1))).1 z t = s3.1 z t := fun z t hz => by rw [pV_1, if_neg (fun q => hz q.1)]
  have ac := ac_node cy h3
  have app : ∀ (j : Nat) (c : Cond), T[j]? = some c → (T ++ [y])[j]? = some c := fun j c h => by rw [List.getElem?_append_left (List.getElem?_eq_some_iff.mp h).1]; exact h
  refine ⟨⟨?_, ?_, ?_, ?_, ?_, ?_⟩, a1, ?_, ?_, ?_, ?_⟩
  · rw [pV_1, if_pos ⟨rfl, rfl⟩, List.length_append]; rfl
  · rw [pV_1, if_neg (by omega)]; exact a4
  · refine List.nodup_append.mpr ⟨t3, nd_one _, fun a ha b hb e => ?_⟩
    rw [List.mem_singleton.mp hb] at e
    exact hy (e ▸ ha)
  · intro z hz
    rcases List.mem_append.mp hz with q | q
    · exact t4 z q
    · rw [List.mem_singleton.mp q]; exact cy
  · intro k hk; exact app k _ (t5 k hk)
  · intro k z hz
    by_cases hk : k < T.length
    · rw [List.getElem?_append_left hk] at hz
      obtain ⟨⟨n1, n2, n3, n4, n5, n6, n7, n8⟩, n9⟩ := t6 k z hz
      have hc := chl_nch z
      show ndO _ _ _ _ (if k = T.length then p else off k) ∧ (if k = T.length then p else off k) + nch z ≤ _
      rw [if_neg (by omega)]
      have old : ∀ c, 190 ≤ c → c ≤ 196 → c ≠ 195 → (pV s3 186 12 (nI (T.length + 1))).1 c k = s.1 c k := fun c h1 h2 h3 => by rw [up c k (by omega)]; exact a5 c k h1 h2 h3 (by omega)
      refine ⟨⟨by rw [old 190 (by omega) (by omega) (by omega)]; exact n1, by rw [old 191 (by omega) (by omega) (by omega)]; exact n2, by rw [old 192 (by omega) (by omega) (by omega)]; exact n3, by rw [old 193 (by omega) (by omega) (by omega)]; exact n4, by rw [old 194 (by omega) (by omega) (by omega)]; exact n5, by rw [old 196 (by omega) (by omega) (by omega)]; exact n6, fun a ha => ?_, fun i c hic => ?_⟩, by omega⟩
      · have e2 : nch z = 1 := by
          rw [ha]
          unfold nch
          rw [if_pos (show kd (.count (2 + a)) = 2 from by show (if 2 + a = 0 then 0 else if 2 + a = 1 then 1 else 2) = 2; rw [if_neg (by omega), if_neg (by omega)])]
        rw [up 195 _ (by omega), a9 _ (Or.inl (by omega))]
        exact n7 a ha
      · obtain ⟨j, hj1, hj2⟩ := n8 i c hic
        have hi := (List.getElem?_eq_some_iff.mp hic).1
        exact ⟨j, app j c hj1, by rw [up 195 _ (by omega), a9 _ (Or.inl (by omega))]; exact hj2⟩
    · have hkl : k = T.length := by
        have := (List.getElem?_eq_some_iff.mp hz).1
        rw [List.length_append, List.length_singleton] at this
        omega
      subst hkl
      rw [List.getElem?_append_right (Nat.le_refl _), Nat.sub_self] at hz
      cases hz
      show ndO _ _ _ _ (if T.length = T.length then p else off T.length) ∧ (if T.length = T.length then p else off T.length) + nch y ≤ _
      rw [if_pos rfl, nch_3 h3]
      refine ⟨⟨by rw [up 190 _ (by omega)]; exact a6, by rw [up 191 _ (by omega)]; exact a7, by rw [up 192 _ (by omega), nch_3 h3]; exact a8, ?_, by rw [up 194 _ (by omega), hD, ac.2.1], by rw [up 196 _ (by omega), hF, ac.2.2], fun a ha => ?_, fun i c hic => ?_⟩, Nat.le_refl _⟩
      · rw [up 193 _ (by omega), hS]
        have e0 : y ≠ S0 := by intro e; rw [e] at h3; exact absurd h3 (by decide)
        unfold sh
        rw [if_neg e0]
        by_cases h5 : kd y = 5
        · rw [if_pos h5]
          cases y with
          | not a => rfl
          | or a b => cases h5
          | and a b => cases h5
          | count q => have := kd_atom q; omega
          | _ => exact cy.elim
        · rw [if_neg h5, ac.1]
      · rw [ha] at h3
        have := kd_atom (2 + a)
        omega
      · have hi := (List.getElem?_eq_some_iff.mp hic).1
        have hji := hjs i (by omega)
        rw [hic] at hji
        exact ⟨js.getD i 0, app _ _ hji, by rw [up 195 _ (by omega)]; exact b1 i hi⟩
  · intro z h1 h2 h3
    rw [← a2 z h1 h2 h3]
    funext t
    exact up z t h1
  · intro z h1 h2
    rw [pV_1, if_neg (by omega)]
    exact a3 z h2
  · intro t ht
    rw [up 198 t (by omega)]
    exact b2 t ht
  · intro x hx
    rw [up 198 _ (by omega)]
    exact b3 x hx
end RK
