/-! WHAT A NODE SAYS OF A SHAPE: kind, children; shortest, nest, full, gathered child by child -/
def kd : Cond → Nat
  | .count k => if k = 0 then 0 else if k = 1 then 1 else 2
  | .or _ _ => 3
  | .and _ _ => 4
  | .not _ => 5
  | _ => 0
def chl : Cond → List Cond
  | .or a b => a :: sumL b
  | .and a b => a :: prodL b
  | .not a => [a]
  | _ => []
def acS (how : Nat) (l : List Cond) : Nat → Nat
  | 0 => 0
  | i + 1 => if how = 3 then (if i = 0 then shN (l.getD i S0) else min (acS how l i) (shN (l.getD i S0))) else if how = 4 then acS how l i + shN (l.getD i S0) else acS how l i
def acD (l : List Cond) : Nat → Nat
  | 0 => 0
  | i + 1 => max (acD l i) (ns (l.getD i S0))
def acF (how : Nat) (l : List Cond) : Nat → Bool
  | 0 => decide (how = 4 ∨ how = 5)
  | i + 1 => if how = 3 then acF how l i || full (l.getD i S0) else if how = 4 then acF how l i && full (l.getD i S0) else acF how l i
theorem acS3_cons (a : Cond) (l : List Cond) : ∀ i, acS 3 (a :: l) (i + 2) = min (shN a) (acS 3 l (i + 1))
  | 0 => rfl
  | i + 1 => by
    have e1 : acS 3 (a :: l) (i + 1 + 2) = min (acS 3 (a :: l) (i + 2)) (shN (l.getD (i + 1) S0)) := rfl
    have e2 : acS 3 l (i + 1 + 1) = min (acS 3 l (i + 1)) (shN (l.getD (i + 1) S0)) := rfl
    rw [e1, e2, acS3_cons a l i]
    omega
theorem acS4_cons (a : Cond) (l : List Cond) : ∀ i, acS 4 (a :: l) (i + 1) = shN a + acS 4 l i
  | 0 => by show 0 + shN a = shN a + 0; omega
  | i + 1 => by
    have e1 : acS 4 (a :: l) (i + 1 + 1) = acS 4 (a :: l) (i + 1) + shN (l.getD i S0) := rfl
    have e2 : acS 4 l (i + 1) = acS 4 l i + shN (l.getD i S0) := rfl
    rw [e1, e2, acS4_cons a l i]
    omega
theorem acD_cons (a : Cond) (l : List Cond) : ∀ i, acD (a :: l) (i + 1) = max (ns a) (acD l i)
  | 0 => by show max 0 (ns a) = max (ns a) 0; omega
  | i + 1 => by
    have e1 : acD (a :: l) (i + 1 + 1) = max (acD (a :: l) (i + 1)) (ns (l.getD i S0)) := rfl
    have e2 : acD l (i + 1) = max (acD l i) (ns (l.getD i S0)) := rfl
    rw [e1, e2, acD_cons a l i]
    omega
theorem acF3_cons (a : Cond) (l : List Cond) : ∀ i, acF 3 (a :: l) (i + 1) = (full a || acF 3 l i)
  | 0 => by show (false || full a) = (full a || false); cases full a <;> rfl
  | i + 1 => by
    have e1 : acF 3 (a :: l) (i + 1 + 1) = (acF 3 (a :: l) (i + 1) || full (l.getD i S0)) := rfl
    have e2 : acF 3 l (i + 1) = (acF 3 l i || full (l.getD i S0)) := rfl
    rw [e1, e2, acF3_cons a l i, Bool.or_assoc]
theorem acF4_cons (a : Cond) (l : List Cond) : ∀ i, acF 4 (a :: l) (i + 1) = (full a && acF 4 l i)
  | 0 => by show (true && full a) = (full a && true); cases full a <;> rfl
  | i + 1 => by
    have e1 : acF 4 (a :: l) (i + 1 + 1) = (acF 4 (a :: l) (i + 1) && full (l.getD i S0)) := rfl
    have e2 : acF 4 l (i + 1) = (acF 4 l i && full (l.getD i S0)) := rfl
    rw [e1, e2, acF4_cons a l i, Bool.and_assoc]
theorem ac_one (x : Cond) : acS 3 [x] 1 = shN x ∧ acS 4 [x] 1 = shN x ∧ acD [x] 1 = ns x ∧ acF 3 [x] 1 = full x ∧ acF 4 [x] 1 = full x :=
  ⟨rfl, by show 0 + shN x = shN x; omega, by show max 0 (ns x) = ns x; omega, by show (false || full x) = full x; cases full x <;> rfl, by show (true && full x) = full x; cases full x <;> rfl⟩
/-- over all summands -/
theorem ac_sum : ∀ {x : Cond}, cn x → x ≠ S0 → acS 3 (sumL x) (sumL x).length = shN x ∧ acD (sumL x) (sumL x).length = ns x ∧ acF 3 (sumL x) (sumL x).length = full x := by
  have one : ∀ {x : Cond}, isSum x = false → x ≠ S0 → acS 3 (sumL x) (sumL x).length = shN x ∧ acD (sumL x) (sumL x).length = ns x ∧ acF 3 (sumL x) (sumL x).length = full x := by
    intro x h h0
    rw [sumL_one h h0]
    exact ⟨(ac_one x).1, (ac_one x).2.2.1, (ac_one x).2.2.2.1⟩
  intro x
  induction x with
  | or a b _ ihb =>
    intro h _
    obtain ⟨i1, i2, i3⟩ := ihb h.2.2.2.1 h.2.2.2.2.1
    obtain ⟨m, hm⟩ : ∃ m, (sumL b).length = m + 1 := by
      cases e : sumL b with
      | nil => exact absurd e (sumL_ne h.2.2.2.2.1)
      | cons y l => exact ⟨l.length, rfl⟩
    rw [sumL_or, List.length_cons]
    rw [hm] at i1 i2 i3 ⊢
    rw [acS3_cons, acD_cons, acF3_cons, i1, i2, i3]
    exact ⟨rfl, rfl, rfl⟩
  | count k => intro _ h0; exact one rfl h0
  | not a _ => intro _ h0; exact one rfl h0
  | and a b _ _ => intro _ h0; exact one rfl h0
  | _ => intro h; exact h.elim
/-- over all factors -/
theorem ac_prod : ∀ {x : Cond}, cn x → acS 4 (prodL x) (prodL x).length = shN x ∧ acD (prodL x) (prodL x).length = ns x ∧ acF 4 (prodL x) (prodL x).length = full x := by
  have one : ∀ {x : Cond}, isProd x = false → acS 4 (prodL x) (prodL x).length = shN x ∧ acD (prodL x) (prodL x).length = ns x ∧ acF 4 (prodL x) (prodL x).length = full x := by
    intro x h
    by_cases h1 : x = S1
    · subst h1; exact ⟨rfl, rfl, rfl⟩
    · rw [prodL_one h h1]
      exact ⟨(ac_one x).2.1, (ac_one x).2.2.1, (ac_one x).2.2.2.2⟩
  intro x
  induction x with
  | and a b _ ihb =>
    intro h
    obtain ⟨i1, i2, i3⟩ := ihb h.2.2.2.2.1
    rw [prodL_and, List.length_cons, acS4_cons, acD_cons, acF4_cons, i1, i2, i3]
    exact ⟨rfl, rfl, rfl⟩
  | count k => intro _; exact one rfl
  | not a _ => intro _; exact one rfl
  | or a b _ _ => intro _; exact one rfl
  | _ => intro h; exact h.elim
/-- what addsNode comes to: of a sum, a product, a star -/
theorem ac_node {y : Cond} (cy : cn y) (h : 3 ≤ kd y) : acS (kd y) (chl y) (chl y).length = shN y ∧ (acD (chl y) (chl y).length + if kd y = 5 then 1 else 0) = ns y ∧ acF (kd y) (chl y) (chl y).length = full y := by
  cases y with
  | or a b =>
    have := ac_sum cy (by intro e; cases e)
    exact ⟨this.1, this.2.1, this.2.2⟩
  | and a b =>
    have := ac_prod cy
    exact ⟨this.1, this.2.1, this.2.2⟩
  | not a => exact ⟨rfl, by show max 0 (ns a) + 1 = ns a + 1; omega, rfl⟩
  | count k =>
    exfalso
    have : (if k = 0 then 0 else if k = 1 then 1 else 2) ≥ 3 := h
    split at this
    · omega
    · split at this <;> omega
  | _ => exact cy.elim
