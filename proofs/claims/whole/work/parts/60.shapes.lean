/-! SHAPES. 0, 1, a, b, c are count 0 .. 4; a sum of two or more is or, a product and, both nested to the right; a star is not. -/
theorem nd_one (x : Cond) : [x].Nodup := List.nodup_cons.mpr ⟨List.not_mem_nil, List.nodup_nil⟩
abbrev S0 : Cond := .count 0
abbrev S1 : Cond := .count 1
def isSum : Cond → Bool
  | .or _ _ => true
  | _ => false
def isProd : Cond → Bool
  | .and _ _ => true
  | _ => false
def isStar : Cond → Bool
  | .not _ => true
  | _ => false
/-- summands, factors -/
def sumL : Cond → List Cond
  | .or a b => a :: sumL b
  | x => if x = S0 then [] else [x]
def prodL : Cond → List Cond
  | .and a b => a :: prodL b
  | x => if x = S1 then [] else [x]
def mkS : List Cond → Cond
  | [] => S0
  | [x] => x
  | x :: y :: l => .or x (mkS (y :: l))
def mkP : List Cond → Cond
  | [] => S1
  | [x] => x
  | x :: y :: l => .and x (mkP (y :: l))
/-- each but once, where it comes first: behind those of acc -/
def ddp (acc : List Cond) : List Cond → List Cond
  | [] => acc
  | x :: l => if x ∈ acc then ddp acc l else ddp (acc ++ [x]) l
def sSum (l : List Cond) : Cond := mkS (ddp [] (l.flatMap sumL))
def sProd (l : List Cond) : Cond := if S0 ∈ l then S0 else mkP (l.flatMap prodL)
def sStar (x : Cond) : Cond := if x = S0 ∨ x = S1 then S1 else if isStar x = true then x else .not x
/-- a shape as it is kept: no sum in a sum, no summand twice, no 0 in it; no product in a product, no 0 and no 1 in it; no star of a star, of 0, of 1 -/
def cn : Cond → Prop
  | .count k => k < 5
  | .or a b => cn a ∧ isSum a = false ∧ a ≠ S0 ∧ cn b ∧ b ≠ S0 ∧ a ∉ sumL b
  | .and a b => cn a ∧ isProd a = false ∧ a ≠ S0 ∧ a ≠ S1 ∧ cn b ∧ b ≠ S0 ∧ b ≠ S1
  | .not a => cn a ∧ isStar a = false ∧ a ≠ S0 ∧ a ≠ S1
  | _ => False
theorem sumL_or (a b : Cond) : sumL (.or a b) = a :: sumL b := rfl
theorem prodL_and (a b : Cond) : prodL (.and a b) = a :: prodL b := rfl
theorem sumL_one {x : Cond} (h : isSum x = false) (h0 : x ≠ S0) : sumL x = [x] := by
  cases x <;> first | (exact if_neg h0) | cases h
theorem prodL_one {x : Cond} (h : isProd x = false) (h1 : x ≠ S1) : prodL x = [x] := by
  cases x <;> first | (exact if_neg h1) | cases h
theorem sumL_S0 : sumL S0 = [] := if_pos rfl
theorem prodL_S1 : prodL S1 = [] := if_pos rfl
theorem prodL_S0 : prodL S0 = [S0] := rfl
theorem sumL_ne {x : Cond} (h0 : x ≠ S0) : sumL x ≠ [] := by
  cases x <;> first | (rw [sumL_one rfl h0]; exact List.cons_ne_nil _ _) | (rw [sumL_or]; exact List.cons_ne_nil _ _)
theorem prodL_ne {x : Cond} (h1 : x ≠ S1) : prodL x ≠ [] := by
  cases x <;> first | (rw [prodL_one rfl h1]; exact List.cons_ne_nil _ _) | (rw [prodL_and]; exact List.cons_ne_nil _ _)
/-- summands of what is kept -/
theorem cn_sumL : ∀ {x : Cond}, cn x → ∀ y ∈ sumL x, cn y ∧ isSum y = false ∧ y ≠ S0 := by
  intro x
  induction x with
  | or a b _ ihb =>
    intro h y hy
    rw [sumL_or] at hy
    rcases List.mem_cons.mp hy with rfl | hy
    · exact ⟨h.1, h.2.1, h.2.2.1⟩
    · exact ihb h.2.2.2.1 y hy
  | count k =>
    intro h y hy
    by_cases h0 : Cond.count k = S0
    · rw [h0, sumL_S0] at hy; cases hy
    · rw [sumL_one rfl h0] at hy
      rw [List.mem_singleton.mp hy]
      exact ⟨h, rfl, h0⟩
  | not a _ =>
    intro h y hy
    rw [sumL_one rfl (by intro e; cases e)] at hy
    rw [List.mem_singleton.mp hy]
    exact ⟨h, rfl, by intro e; cases e⟩
  | and a b _ _ =>
    intro h y hy
    rw [sumL_one rfl (by intro e; cases e)] at hy
    rw [List.mem_singleton.mp hy]
    exact ⟨h, rfl, by intro e; cases e⟩
  | _ => intro h; exact h.elim
theorem cn_prodL : ∀ {x : Cond}, cn x → x ≠ S0 → ∀ y ∈ prodL x, cn y ∧ isProd y = false ∧ y ≠ S0 ∧ y ≠ S1 := by
  intro x
  induction x with
  | and a b _ ihb =>
    intro h _ y hy
    rw [prodL_and] at hy
    rcases List.mem_cons.mp hy with rfl | hy
    · exact ⟨h.1, h.2.1, h.2.2.1, h.2.2.2.1⟩
    · exact ihb h.2.2.2.2.1 h.2.2.2.2.2.1 y hy
  | count k =>
    intro h h0 y hy
    by_cases h1 : Cond.count k = S1
    · rw [h1, prodL_S1] at hy; cases hy
    · rw [prodL_one rfl h1] at hy
      rw [List.mem_singleton.mp hy]
      exact ⟨h, rfl, h0, h1⟩
  | not a _ =>
    intro h h0 y hy
    rw [prodL_one rfl (by intro e; cases e)] at hy
    rw [List.mem_singleton.mp hy]
    exact ⟨h, rfl, h0, by intro e; cases e⟩
  | or a b _ _ =>
    intro h h0 y hy
    rw [prodL_one rfl (by intro e; cases e)] at hy
    rw [List.mem_singleton.mp hy]
    exact ⟨h, rfl, h0, by intro e; cases e⟩
  | _ => intro h; exact h.elim
/-- a sum's summands make it -/
theorem mkS_sumL : ∀ {x : Cond}, cn x → mkS (sumL x) = x := by
  intro x
  induction x with
  | or a b _ ihb =>
    intro h
    rw [sumL_or]
    have h2 := sumL_ne h.2.2.2.2.1
    have h3 := ihb h.2.2.2.1
    cases hb : sumL b with
    | nil => exact absurd hb h2
    | cons y l => rw [hb] at h3; rw [mkS, h3]
  | count k =>
    intro h
    by_cases h0 : Cond.count k = S0
    · rw [h0, sumL_S0]; rfl
    · rw [sumL_one rfl h0]; rfl
  | not a _ => intro h; rw [sumL_one rfl (by intro e; cases e)]; rfl
  | and a b _ _ => intro h; rw [sumL_one rfl (by intro e; cases e)]; rfl
  | _ => intro h; exact h.elim
theorem mkP_prodL : ∀ {x : Cond}, cn x → mkP (prodL x) = x := by
  intro x
  induction x with
  | and a b _ ihb =>
    intro h
    rw [prodL_and]
    have h2 := prodL_ne h.2.2.2.2.2.2
    have h3 := ihb h.2.2.2.2.1
    cases hb : prodL b with
    | nil => exact absurd hb h2
    | cons y l => rw [hb] at h3; rw [mkP, h3]
  | count k =>
    intro h
    by_cases h0 : Cond.count k = S1
    · rw [h0, prodL_S1]; rfl
    · rw [prodL_one rfl h0]; rfl
  | not a _ => intro h; rw [prodL_one rfl (by intro e; cases e)]; rfl
  | or a b _ _ => intro h; rw [prodL_one rfl (by intro e; cases e)]; rfl
  | _ => intro h; exact h.elim
/-- no summand twice -/
theorem sumL_nodup : ∀ {x : Cond}, cn x → (sumL x).Nodup := by
  intro x
  induction x with
  | or a b _ ihb => intro h; rw [sumL_or]; exact List.nodup_cons.mpr ⟨h.2.2.2.2.2, ihb h.2.2.2.1⟩
  | count k =>
    intro h
    by_cases h0 : Cond.count k = S0
    · rw [h0, sumL_S0]; exact List.nodup_nil
    · rw [sumL_one rfl h0]; exact nd_one _
  | not a _ => intro h; rw [sumL_one rfl (by intro e; cases e)]; exact nd_one _
  | and a b _ _ => intro h; rw [sumL_one rfl (by intro e; cases e)]; exact nd_one _
  | _ => intro h; exact h.elim
/-- what is made of summands has them, and is kept -/
theorem sumL_mkS : ∀ {l : List Cond}, (∀ y ∈ l, cn y ∧ isSum y = false ∧ y ≠ S0) → l.Nodup → sumL (mkS l) = l ∧ cn (mkS l) ∧ (l ≠ [] → mkS l ≠ S0)
  | [], _, _ => ⟨sumL_S0, show 0 < 5 by decide, fun h => absurd rfl h⟩
  | [x], h, _ => by
    have hx := h x List.mem_cons_self
    exact ⟨sumL_one hx.2.1 hx.2.2, hx.1, fun _ => hx.2.2⟩
  | x :: y :: l, h, hn => by
    have hx := h x List.mem_cons_self
    have hn2 := List.nodup_cons.mp hn
    have ih := sumL_mkS (l := y :: l) (fun z hz => h z (List.mem_cons_of_mem _ hz)) hn2.2
    refine ⟨?_, ⟨hx.1, hx.2.1, hx.2.2, ih.2.1, ih.2.2 (List.cons_ne_nil _ _), by rw [ih.1]; exact hn2.1⟩, fun _ e => by cases e⟩
    show sumL (.or x (mkS (y :: l))) = _
    rw [sumL_or, ih.1]
theorem prodL_mkP : ∀ {l : List Cond}, (∀ y ∈ l, cn y ∧ isProd y = false ∧ y ≠ S0 ∧ y ≠ S1) → prodL (mkP l) = l ∧ cn (mkP l) ∧ mkP l ≠ S0 ∧ (l ≠ [] → mkP l ≠ S1)
  | [], _ => ⟨prodL_S1, show 1 < 5 by decide, by decide, fun h => absurd rfl h⟩
  | [x], h => by
    have hx := h x List.mem_cons_self
    exact ⟨prodL_one hx.2.1 hx.2.2.2, hx.1, hx.2.2.1, fun _ => hx.2.2.2⟩
  | x :: y :: l, h => by
    have hx := h x List.mem_cons_self
    have ih := prodL_mkP (l := y :: l) (fun z hz => h z (List.mem_cons_of_mem _ hz))
    refine ⟨?_, ⟨hx.1, hx.2.1, hx.2.2.1, hx.2.2.2, ih.2.1, ih.2.2.1, ih.2.2.2 (List.cons_ne_nil _ _)⟩, (fun e => by cases e), (fun _ e => by cases e)⟩
    show prodL (.and x (mkP (y :: l))) = _
    rw [prodL_and, ih.1]
/-- each but once -/
theorem ddp_mem : ∀ {acc l : List Cond} {x : Cond}, x ∈ ddp acc l ↔ x ∈ acc ∨ x ∈ l
  | acc, [], x => by simp [ddp]
  | acc, y :: l, x => by
    unfold ddp
    split
    · rename_i h
      rw [ddp_mem, List.mem_cons]
      constructor
      · rintro (q | q) <;> simp [q]
      · rintro (q | rfl | q)
        · exact Or.inl q
        · exact Or.inl h
        · exact Or.inr q
    · rw [ddp_mem, List.mem_append, List.mem_singleton, List.mem_cons, or_assoc]
theorem ddp_nodup : ∀ {acc l : List Cond}, acc.Nodup → (ddp acc l).Nodup
  | acc, [], h => h
  | acc, y :: l, h => by
    unfold ddp
    split
    · exact ddp_nodup h
    · rename_i hy
      refine ddp_nodup (List.nodup_append.mpr ⟨h, nd_one _, fun a ha b hb e => ?_⟩)
      rw [List.mem_singleton.mp hb] at e
      exact hy (e ▸ ha)
theorem ddp_cons (acc : List Cond) (x : Cond) (l : List Cond) : ddp acc (x :: l) = if x ∈ acc then ddp acc l else ddp (acc ++ [x]) l := rfl
theorem ddp_app : ∀ {acc l1 l2 : List Cond}, ddp acc (l1 ++ l2) = ddp (ddp acc l1) l2
  | acc, [], l2 => rfl
  | acc, y :: l1, l2 => by
    rw [List.cons_append, ddp_cons, ddp_cons]
    split
    · exact ddp_app
    · exact ddp_app
/-- what is all new stays -/
theorem ddp_new : ∀ {acc l : List Cond}, (acc ++ l).Nodup → ddp acc l = acc ++ l
  | acc, [], _ => by rw [List.append_nil]; rfl
  | acc, y :: l, h => by
    unfold ddp
    rw [if_neg (fun hy => (List.nodup_append.mp h).2.2 y hy y List.mem_cons_self rfl), ddp_new (by rw [List.append_assoc]; exact h), List.append_assoc]
    rfl
theorem cn_sSum {l : List Cond} (h : ∀ x ∈ l, cn x) : cn (sSum l) ∧ sumL (sSum l) = ddp [] (l.flatMap sumL) := by
  have := sumL_mkS (l := ddp [] (l.flatMap sumL)) (fun y hy => by
    rcases ddp_mem.mp hy with q | q
    · cases q
    · obtain ⟨x, hx, hy⟩ := List.mem_flatMap.mp q
      exact cn_sumL (h x hx) y hy) (ddp_nodup List.nodup_nil)
  exact ⟨this.2.1, this.1⟩
theorem cn_sProd {l : List Cond} (h : ∀ x ∈ l, cn x) : cn (sProd l) := by
  unfold sProd
  split
  · exact show 0 < 5 by decide
  · rename_i h0
    refine (prodL_mkP (fun y hy => ?_)).2.1
    obtain ⟨x, hx, hy⟩ := List.mem_flatMap.mp hy
    exact cn_prodL (h x hx) (fun e => h0 (e ▸ hx)) y hy
theorem cn_sStar {x : Cond} (h : cn x) : cn (sStar x) := by
  unfold sStar
  split
  · exact show 1 < 5 by decide
  · rename_i h0
    split
    · exact h
    · rename_i h1
      exact ⟨h, by simpa using h1, fun e => h0 (Or.inl e), fun e => h0 (Or.inr e)⟩
