/-! THE REFERENCE'S TABLE OF NODES: each shape but once, its number is its place in T -/
def nch (y : Cond) : Nat := if kd y = 2 then 1 else (chl y).length
def ndO (v : Nat → Nat → Int32) (T : List Cond) (k : Nat) (y : Cond) (o : Nat) : Prop := v 190 k = nI (kd y) ∧ v 191 k = nI o ∧ v 192 k = nI (nch y) ∧ v 193 k = sh y ∧ v 194 k = nI (ns y) ∧ v 196 k = bz (full y) ∧ (∀ a, y = .count (2 + a) → v 195 o = nI a) ∧ ∀ i c, (chl y)[i]? = some c → ∃ j, T[j]? = some c ∧ v 195 (o + i) = nI j
def rN (v : Nat → Nat → Int32) (T : List Cond) (off : Nat → Nat) (p : Nat) : Prop := v 186 12 = nI T.length ∧ v 186 13 = nI p ∧ T.Nodup ∧ (∀ y ∈ T, cn y) ∧ (∀ k, k < 5 → T[k]? = some (.count k)) ∧ ∀ k y, T[k]? = some y → ndO v T k y (off k) ∧ off k + nch y ≤ p
theorem kd_le (y : Cond) : kd y ≤ 5 := by
  cases y with
  | count k => show (if k = 0 then 0 else if k = 1 then 1 else 2) ≤ 5; split; omega; split <;> omega
  | or a b => exact show 3 ≤ 5 by decide
  | and a b => exact show 4 ≤ 5 by decide
  | not a => exact show 5 ≤ 5 by decide
  | _ => exact Nat.zero_le _
theorem nch_3 {y : Cond} (h : 3 ≤ kd y) : nch y = (chl y).length := by unfold nch; rw [if_neg (by omega)]
/-- kind and children make the shape -/
theorem kc_eq {x y : Cond} (cx : cn x) (cy : cn y) (h3 : 3 ≤ kd y) (hk : kd x = kd y) (hc : chl x = chl y) : x = y := by
  have atom : ∀ k, kd (.count k) < 3 := by
    intro k
    show (if k = 0 then 0 else if k = 1 then 1 else 2) < 3
    split
    · omega
    · split <;> omega
  cases y with
  | or a b => cases x with
    | or c e =>
      have h1 := mkS_sumL cx
      have h2 := mkS_sumL cy
      rw [sumL_or] at h1 h2
      have hc' : c :: sumL e = a :: sumL b := hc
      rw [hc'] at h1
      exact h1.symm.trans h2
    | count k => have := atom k; omega
    | and c e => cases hk
    | not c => cases hk
    | _ => exact cx.elim
  | and a b => cases x with
    | and c e =>
      have h1 := mkP_prodL cx
      have h2 := mkP_prodL cy
      rw [prodL_and] at h1 h2
      have hc' : c :: prodL e = a :: prodL b := hc
      rw [hc'] at h1
      exact h1.symm.trans h2
    | count k => have := atom k; omega
    | or c e => cases hk
    | not c => cases hk
    | _ => exact cx.elim
  | not a => cases x with
    | not c =>
      have hc' : [c] = [a] := hc
      cases hc'
      rfl
    | count k => have := atom k; omega
    | or c e => cases hk
    | and c e => cases hk
    | _ => exact cx.elim
  | count k => have := atom k; omega
  | _ => exact cy.elim
/-- the search finds the shape, where it is -/
theorem rN_mt {v : Nat → Nat → Int32} {T : List Cond} {off : Nat → Nat} {p k : Nat} {y : Cond} {js : List Nat} (hT : rN v T off p) (hp : p ≤ 24000) (hl : T.length ≤ 1500) (cy : cn y) (h3 : 3 ≤ kd y) (hn : (chl y).length ≤ 400) (hjl : js.length = (chl y).length) (hrow : ∀ i, i < js.length → v 200 i = nI (js.getD i 0)) (hjs : ∀ i, i < js.length → T[js.getD i 0]? = (chl y)[i]?) (hk : k < T.length) : mtN v (nI (kd y)) (chl y).length off k ↔ T[k]? = some y := by
  obtain ⟨-, -, hnd, hcn, -, hall⟩ := hT
  have idx : ∀ {j c}, T[j]? = some c → j < T.length := fun h => (List.getElem?_eq_some_iff.mp h).1
  obtain ⟨x, hx⟩ : ∃ x, T[k]? = some x := ⟨T[k], List.getElem?_eq_getElem hk⟩
  obtain ⟨⟨n1, n2, n3, -, -, -, -, n8⟩, n9⟩ := hall k x hx
  have at' : ∀ i, i < (chl y).length → ∃ c, (chl y)[i]? = some c := fun i hi => ⟨(chl y)[i], List.getElem?_eq_getElem hi⟩
  constructor
  · rintro ⟨m1, m2, m3⟩
    have hkd : kd x = kd y := by
      have := kd_le x
      have := kd_le y
      rw [n1, nJ_eq (by omega) (by omega)] at m1
      exact m1
    have hlen : (chl x).length = (chl y).length := by
      have e := nch_3 (y := x) (by omega)
      rw [e] at n9
      rw [n3, e, nJ_eq (by omega) (by omega)] at m2
      exact m2
    have hch : chl x = chl y := by
      apply List.ext_getElem?
      intro i
      by_cases hi : i < (chl y).length
      · have hcx : (chl x)[i]? = some ((chl x)[i]'(by omega)) := List.getElem?_eq_getElem (by omega)
        obtain ⟨j, hj1, hj2⟩ := n8 i _ hcx
        obtain ⟨c, hc⟩ := at' i hi
        have hji := hjs i (by omega)
        rw [hc] at hji
        have b1 := idx hj1
        have b2 := idx hji
        have e := m3 i hi
        rw [hj2, hrow i (by omega), nJ_eq (by omega) (by omega)] at e
        rw [hcx, hc, ← hj1, ← hji, e]
      · rw [List.getElem?_eq_none (by omega), List.getElem?_eq_none (by omega)]
    rw [hx, kc_eq (hcn x (List.mem_of_getElem? hx)) cy h3 hkd hch]
  · intro hy
    rw [hx] at hy
    cases hy
    refine ⟨n1, by rw [n3, nch_3 h3], fun i hi => ?_⟩
    obtain ⟨c, hc⟩ := at' i hi
    obtain ⟨j, hj1, hj2⟩ := n8 i c hc
    have hji := hjs i (by omega)
    rw [hc, ← hj1] at hji
    have b2 := idx hj1
    have e : j = js.getD i 0 := (List.getElem?_inj b2 hnd).mp hji.symm
    rw [hj2, hrow i (by omega), e]
