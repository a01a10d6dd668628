/-! SIZES: how much a shape of few bytes can have -/
theorem z_not2 (a : Cond) : z2 (.not a) = z2 a + 1 := by
  show (sp a 2 ++ [42]).length = (sp a 2).length + 1
  rw [List.length_append]; rfl
theorem z12 : ∀ {x : Cond}, cn x → z1 x ≤ z2 x ∧ z2 x ≤ z0 x + 2 := by
  intro x
  induction x with
  | count k => intro _; exact ⟨Nat.le_refl _, show 1 ≤ 1 + 2 by decide⟩
  | or a b _ _ => intro _; rw [(z_or a b).1, (z_or a b).2.1, (z_or a b).2.2]; omega
  | and a b _ _ => intro _; rw [(z_and a b).1, (z_and a b).2.1, (z_and a b).2.2]; omega
  | not a _ => intro _; rw [(z_not a).1, (z_not a).2, z_not2]; omega
  | _ => intro h; exact h.elim
theorem sh_z : ∀ {x : Cond}, cn x → shN x ≤ z0 x ∧ ns x ≤ z0 x ∧ (sumL x).length ≤ z0 x ∧ (prodL x).length ≤ z0 x := by
  intro x
  induction x with
  | count k =>
    intro _
    refine ⟨?_, Nat.zero_le _, ?_, ?_⟩
    · show (if k = 1 then 0 else 1) ≤ 1
      split <;> omega
    · show (if Cond.count k = S0 then [] else [Cond.count k]).length ≤ 1
      split <;> simp
    · show (if Cond.count k = S1 then [] else [Cond.count k]).length ≤ 1
      split <;> simp
  | or a b iha ihb =>
    intro h
    have ha := iha h.1
    have hb := ihb h.2.2.2.1
    have h1 := z01 h.1
    have h2 := z01 h.2.2.2.1
    rw [(z_or a b).1, sumL_or, List.length_cons]
    have e1 : shN (.or a b) = min (shN a) (shN b) := rfl
    have e2 : ns (.or a b) = max (ns a) (ns b) := rfl
    have e3 : (prodL (.or a b)).length = 1 := rfl
    rw [e1, e2, e3]
    omega
  | and a b iha ihb =>
    intro h
    have ha := iha h.1
    have hb := ihb h.2.2.2.2.1
    have h1 := z01 h.1
    have h2 := z01 h.2.2.2.2.1
    rw [(z_and a b).1, prodL_and, List.length_cons]
    have e1 : shN (.and a b) = shN a + shN b := rfl
    have e2 : ns (.and a b) = max (ns a) (ns b) := rfl
    have e3 : (sumL (.and a b)).length = 1 := rfl
    rw [e1, e2, e3]
    omega
  | not a iha =>
    intro h
    have ha := iha h.1
    have h1 := z01 h.1
    have h2 := z12 h.1
    rw [(z_not a).1]
    have e1 : shN (.not a) = 0 := rfl
    have e2 : ns (.not a) = ns a + 1 := rfl
    have e3 : (sumL (.not a)).length = 1 := rfl
    have e4 : (prodL (.not a)).length = 1 := rfl
    rw [e1, e2, e3, e4]
    omega
  | _ => intro h; exact h.elim
theorem chl_z {y : Cond} (cy : cn y) : (chl y).length ≤ z0 y := by
  cases y with
  | or a b => exact (sh_z cy).2.2.1
  | and a b => exact (sh_z cy).2.2.2
  | not a => exact (z01 cy).1
  | _ => exact Nat.zero_le _
theorem nch_z {y : Cond} (cy : cn y) : nch y ≤ z0 y := by
  unfold nch
  split
  · exact (z01 cy).1
  · exact chl_z cy
theorem ac_le {how : Nat} {l : List Cond} (h : ∀ z ∈ l, shN z ≤ 150 ∧ ns z ≤ 150) : ∀ i, acS how l i ≤ i * 150 ∧ acD l i ≤ 150
  | 0 => ⟨Nat.le_refl _, Nat.zero_le _⟩
  | i + 1 => by
    obtain ⟨h1, h2⟩ := ac_le (how := how) h i
    have hg : shN (l.getD i S0) ≤ 150 ∧ ns (l.getD i S0) ≤ 150 := by
      rw [List.getD_eq_getElem?_getD]
      cases e : l[i]? with
      | none => exact ⟨show 1 ≤ 150 by decide, show 0 ≤ 150 by decide⟩
      | some c => exact h c (List.mem_of_getElem? e)
    refine ⟨?_, ?_⟩
    · show (if how = 3 then (if i = 0 then shN (l.getD i S0) else min (acS how l i) (shN (l.getD i S0))) else if how = 4 then acS how l i + shN (l.getD i S0) else acS how l i) ≤ (i + 1) * 150
      split
      · split <;> omega
      · split <;> omega
    · show max (acD l i) (ns (l.getD i S0)) ≤ 150
      omega
theorem chl_n0 {y : Cond} (cy : cn y) : ∀ z ∈ chl y, z ≠ S0 ∧ cn z := by
  intro z hz
  cases y with
  | or a b => exact ⟨(cn_sumL cy z hz).2.2, (cn_sumL cy z hz).1⟩
  | and a b => exact ⟨(cn_prodL cy (by intro e; cases e) z hz).2.2.1, (cn_prodL cy (by intro e; cases e) z hz).1⟩
  | not a => rw [List.mem_singleton.mp hz]; exact ⟨cy.2.2.1, cy.1⟩
  | _ => cases hz
theorem kd_0 {x : Cond} (cx : cn x) : kd x = 0 ↔ x = S0 := by
  constructor
  · intro h
    rcases kd_01 cx (by omega) with e | e
    · exact e
    · rw [e] at h; exact absurd h (by decide)
  · intro h; rw [h]; rfl
theorem kd_1 {x : Cond} (cx : cn x) : kd x = 1 ↔ x = S1 := by
  constructor
  · intro h
    rcases kd_01 cx (by omega) with e | e
    · rw [e] at h; exact absurd h (by decide)
    · exact e
  · intro h; rw [h]; rfl
theorem kd_3 {x : Cond} (cx : cn x) : kd x = 3 ↔ isSum x = true := by
  cases x with
  | count k => exact ⟨fun h => by have := kd_atom k; omega, fun h => by cases h⟩
  | or a b => exact ⟨fun _ => rfl, fun _ => rfl⟩
  | and a b => exact ⟨(fun h => by cases h), (fun h => by cases h)⟩
  | not a => exact ⟨(fun h => by cases h), (fun h => by cases h)⟩
  | _ => exact cx.elim
theorem kd_4 {x : Cond} (cx : cn x) : kd x = 4 ↔ isProd x = true := by
  cases x with
  | count k => exact ⟨fun h => by have := kd_atom k; omega, fun h => by cases h⟩
  | and a b => exact ⟨fun _ => rfl, fun _ => rfl⟩
  | or a b => exact ⟨(fun h => by cases h), (fun h => by cases h)⟩
  | not a => exact ⟨(fun h => by cases h), (fun h => by cases h)⟩
  | _ => exact cx.elim
theorem sumL_3 {x : Cond} (h : kd x = 3) : sumL x = chl x := by
  cases x with
  | or a b => rfl
  | count k => have := kd_atom k; omega
  | _ => cases h
theorem prodL_4 {x : Cond} (h : kd x = 4) : prodL x = chl x := by
  cases x with
  | and a b => rfl
  | count k => have := kd_atom k; omega
  | _ => cases h
theorem sumL_n3 {x : Cond} (cx : cn x) (h : kd x ≠ 3) (h0 : kd x ≠ 0) : sumL x = [x] := by
  refine sumL_one ?_ (fun e => h0 ((kd_0 cx).mpr e))
  cases e : isSum x with
  | false => rfl
  | true => exact absurd ((kd_3 cx).mpr e) h
theorem prodL_n4 {x : Cond} (cx : cn x) (h : kd x ≠ 4) (h0 : kd x ≠ 1) : prodL x = [x] := by
  refine prodL_one ?_ (fun e => h0 ((kd_1 cx).mpr e))
  cases e : isProd x with
  | false => rfl
  | true => exact absurd ((kd_4 cx).mpr e) h
/-- places in the pool -/
def pn : List Cond → Nat
  | [] => 0
  | y :: l => nch y + pn l
theorem pn_app : ∀ (l m : List Cond), pn (l ++ m) = pn l + pn m
  | [], m => by rw [List.nil_append]; show _ = 0 + _; omega
  | x :: l, m => by rw [List.cons_append]; show nch x + pn (l ++ m) = nch x + pn l + pn m; rw [pn_app l m]; omega
/-- a row of shapes that are each but once among others: no more places -/
theorem pn_le : ∀ {l m : List Cond}, l.Nodup → (∀ x ∈ l, x ∈ m) → pn l ≤ pn m
  | [], m, _, _ => Nat.zero_le _
  | x :: l, m, h, hs => by
    have hn := List.nodup_cons.mp h
    have hx := hs x List.mem_cons_self
    obtain ⟨m1, m2, rfl⟩ := List.append_of_mem hx
    have := pn_le (l := l) (m := m1 ++ m2) hn.2 (fun y hy => by
      have hy' := hs y (List.mem_cons_of_mem _ hy)
      rcases List.mem_append.mp hy' with q | q
      · exact List.mem_append_left _ q
      · rcases List.mem_cons.mp q with q | q
        · exact absurd (q ▸ hy) hn.1
        · exact List.mem_append_right _ q)
    rw [pn_app] at this
    have e : pn (m1 ++ x :: m2) = pn m1 + (nch x + pn m2) := pn_app _ _
    rw [e]
    show nch x + pn l ≤ _
    omega
/-- T' is T with y in it -/
def ad (T : List Cond) (y : Cond) (T' : List Cond) : Prop := (T' = T ∧ y ∈ T) ∨ (T' = T ++ [y] ∧ y ∉ T)
theorem ad_len {T T' : List Cond} {y : Cond} (h : ad T y T') : T'.length ≤ T.length + 1 := by
  rcases h with ⟨e, -⟩ | ⟨e, -⟩ <;> rw [e]
  · omega
  · rw [List.length_append]; exact Nat.le_refl _
theorem ad_pn {T T' : List Cond} {y : Cond} (h : ad T y T') : pn T' ≤ pn T + nch y := by
  rcases h with ⟨e, -⟩ | ⟨e, -⟩ <;> rw [e]
  · omega
  · rw [pn_app]; show pn T + (nch y + 0) ≤ _; omega
theorem ad_mem {T T' : List Cond} {y z : Cond} (h : ad T y T') (hz : z ∈ T') : z ∈ T ∨ z = y := by
  rcases h with ⟨e, -⟩ | ⟨e, -⟩ <;> rw [e] at hz
  · exact Or.inl hz
  · rcases List.mem_append.mp hz with q | q
    · exact Or.inl q
    · exact Or.inr (List.mem_singleton.mp q)
