/-! TERMS: parts of parts, in the order in which they come; at most letters + 1 -/
def dq : Cond → List (Nat × Cond)
  | .count k => if 2 ≤ k then [(k - 2, S1)] else []
  | .or a b => dq a ++ dq b
  | .and a b => (dq a).map (fun q => (q.1, pj q.2 b)) ++ dq b
  | .not a => (dq a).map fun q => (q.1, pj q.2 (.not a))
  | _ => []
theorem dq_len : ∀ x : Cond, (dq x).length = lts x := by
  intro x
  induction x with
  | count k => unfold dq lts; split <;> rfl
  | or a b iha ihb => show (dq a ++ dq b).length = _; rw [List.length_append, iha, ihb]; rfl
  | and a b iha ihb => show ((dq a).map _ ++ dq b).length = _; rw [List.length_append, List.length_map, iha, ihb]; rfl
  | not a iha => show ((dq a).map _).length = _; rw [List.length_map, iha]; rfl
  | _ => rfl
theorem dq_pt : ∀ {x : Cond} {l : Nat}, ∀ z ∈ pt x l, (l, z) ∈ dq x := by
  intro x l
  induction x with
  | count k =>
    intro z hz
    unfold pt at hz
    split at hz
    · rename_i hk
      unfold dq
      rw [if_pos (by omega), List.mem_singleton.mp hz, show k - 2 = l by omega]
      exact List.mem_singleton.mpr rfl
    · cases hz
  | or a b iha ihb =>
    intro z hz
    show _ ∈ dq a ++ dq b
    rcases pt_or.mp hz with q | q
    · exact List.mem_append_left _ (iha z q)
    · exact List.mem_append_right _ (ihb z q)
  | and a b iha ihb =>
    intro z hz
    show _ ∈ (dq a).map _ ++ dq b
    rcases pt_and.mp hz with ⟨u, hu, rfl⟩ | ⟨-, q⟩
    · exact List.mem_append_left _ (List.mem_map.mpr ⟨(l, u), iha u hu, rfl⟩)
    · exact List.mem_append_right _ (ihb z q)
  | not a iha =>
    intro z hz
    obtain ⟨u, hu, rfl⟩ := pt_not.mp hz
    exact List.mem_map.mpr ⟨(l, u), iha u hu, rfl⟩
  | _ => intro z hz; cases hz
theorem dq_cl : ∀ {x : Cond} {l : Nat}, cn x → ∀ y ∈ dp x, ∀ z ∈ pt y l, (l, z) ∈ dq x := by
  intro x l
  induction x with
  | count k =>
    intro _ y hy z hz
    unfold dp at hy
    split at hy
    · rw [List.mem_singleton.mp hy] at hz
      unfold pt at hz
      rw [if_neg (by omega)] at hz
      cases hz
    · cases hy
  | or a b iha ihb =>
    intro h y hy z hz
    rcases List.mem_append.mp hy with q | q
    · exact List.mem_append_left _ (iha h.1 y q z hz)
    · exact List.mem_append_right _ (ihb h.2.2.2.1 y q z hz)
  | and a b iha ihb =>
    intro h y hy z hz
    rcases List.mem_append.mp hy with q | q
    · obtain ⟨u, hu, rfl⟩ := List.mem_map.mp q
      have hc := dp_cn h.1 u hu
      rcases pt_pj h.2.2.2.2.1 h.2.2.2.2.2.1 h.2.2.2.2.2.2 hc.1 hc.2 z hz with ⟨v, hv, rfl⟩ | q
      · exact List.mem_append_left _ (List.mem_map.mpr ⟨(l, v), iha h.1 u hu v hv, rfl⟩)
      · exact List.mem_append_right _ (dq_pt z q)
    · exact List.mem_append_right _ (ihb h.2.2.2.2.1 y q z hz)
  | not a iha =>
    intro h y hy z hz
    obtain ⟨u, hu, rfl⟩ := List.mem_map.mp hy
    have hc := dp_cn h.1 u hu
    rcases pt_pj h (by intro e; cases e) (by intro e; cases e) hc.1 hc.2 z hz with ⟨v, hv, rfl⟩ | q
    · exact List.mem_map.mpr ⟨(l, v), iha h.1 u hu v hv, rfl⟩
    · obtain ⟨v, hv, rfl⟩ := pt_not.mp q
      exact List.mem_map.mpr ⟨(l, v), dq_pt v hv, rfl⟩
  | _ => intro h; exact h.elim
theorem pt_nodup : ∀ (x : Cond) (l : Nat), (pt x l).Nodup := by
  intro x l
  cases x with
  | count k => unfold pt; split; exact nd_one _; exact List.nodup_nil
  | or a b => exact ddp_nodup List.nodup_nil
  | and a b => exact ddp_nodup List.nodup_nil
  | not a => exact ddp_nodup List.nodup_nil
  | _ => exact List.nodup_nil
/-- what comes is put behind -/
theorem ddp_pre : ∀ (acc l : List Cond), ∃ e, ddp acc l = acc ++ e
  | acc, [] => ⟨[], (List.append_nil _).symm⟩
  | acc, x :: l => by
    rw [ddp_cons]
    split
    · exact ddp_pre acc l
    · obtain ⟨e, he⟩ := ddp_pre (acc ++ [x]) l
      exact ⟨x :: e, by rw [he, List.append_assoc]; rfl⟩
def tst (T : List Cond) (y : Cond) : List Cond := ddp (ddp (ddp T (pt y 0)) (pt y 1)) (pt y 2)
theorem tst_pre (T : List Cond) (y : Cond) : ∃ e, tst T y = T ++ e := by
  obtain ⟨e1, h1⟩ := ddp_pre T (pt y 0)
  obtain ⟨e2, h2⟩ := ddp_pre (ddp T (pt y 0)) (pt y 1)
  obtain ⟨e3, h3⟩ := ddp_pre (ddp (ddp T (pt y 0)) (pt y 1)) (pt y 2)
  exact ⟨e1 ++ e2 ++ e3, by unfold tst; rw [h3, h2, h1]; simp⟩
theorem tst_mem {T : List Cond} {y z : Cond} : z ∈ tst T y ↔ z ∈ T ∨ ∃ l, l < 3 ∧ z ∈ pt y l := by
  unfold tst
  rw [ddp_mem, ddp_mem, ddp_mem]
  constructor
  · rintro (((q | q) | q) | q)
    · exact Or.inl q
    · exact Or.inr ⟨0, by decide, q⟩
    · exact Or.inr ⟨1, by decide, q⟩
    · exact Or.inr ⟨2, by decide, q⟩
  · rintro (q | ⟨l, hl, q⟩)
    · exact Or.inl (Or.inl (Or.inl q))
    · rcases (show l = 0 ∨ l = 1 ∨ l = 2 by omega) with rfl | rfl | rfl
      · exact Or.inl (Or.inl (Or.inr q))
      · exact Or.inl (Or.inr q)
      · exact Or.inr q
theorem tst_nodup {T : List Cond} {y : Cond} (h : T.Nodup) : (tst T y).Nodup := ddp_nodup (ddp_nodup (ddp_nodup h))
def tmG : Nat → Nat → List Cond → List Cond
  | 0, _, T => T
  | f + 1, k, T => match T[k]? with
    | none => T
    | some y => tmG f (k + 1) (tst T y)
def tms (x : Cond) : List Cond := tmG 32 0 [x]
/-- terms so far: each but once, among x and parts of parts; those before k have their parts among them -/
def tmI (x : Cond) (k : Nat) (T : List Cond) : Prop := T.Nodup ∧ (∀ z ∈ T, z = x ∨ z ∈ dp x) ∧ (∀ j y, j < k → T[j]? = some y → ∀ l, l < 3 → ∀ z ∈ pt y l, z ∈ T) ∧ T[0]? = some x
theorem tmI_len {x : Cond} {k : Nat} {T : List Cond} (h : tmI x k T) : T.length ≤ lts x + 1 := by
  have := nd_le (l := T) (m := x :: dp x) h.1 (fun z hz => (h.2.1 z hz).elim (fun e => e ▸ List.mem_cons_self) (fun q => List.mem_cons_of_mem _ q))
  rw [List.length_cons, dp_len] at this
  exact this
theorem tmI_step {x y : Cond} {k : Nat} {T : List Cond} (cx : cn x) (h : tmI x k T) (hy : T[k]? = some y) : tmI x (k + 1) (tst T y) := by
  obtain ⟨h1, h2, h3, h4⟩ := h
  obtain ⟨e, he⟩ := tst_pre T y
  have old : ∀ (j : Nat) (z : Cond), T[j]? = some z → (tst T y)[j]? = some z := by
    intro j z hz
    rw [he, List.getElem?_append_left (List.getElem?_eq_some_iff.mp hz).1]
    exact hz
  refine ⟨tst_nodup h1, fun z hz => ?_, fun j w hj hw l hl z hz => ?_, old 0 x h4⟩
  · rcases tst_mem.mp hz with q | ⟨l, -, q⟩
    · exact h2 z q
    · rcases h2 y (List.mem_of_getElem? hy) with rfl | hd
      · exact Or.inr (dp_pt z q)
      · exact Or.inr (dp_cl cx y hd z q)
  · by_cases hjk : j = k
    · subst hjk
      rw [old j y hy] at hw
      cases hw
      exact tst_mem.mpr (Or.inr ⟨l, hl, hz⟩)
    · have hkl := (List.getElem?_eq_some_iff.mp hy).1
      have hw' : T[j]? = some w := by
        rw [he, List.getElem?_append_left (by omega)] at hw
        exact hw
      exact tst_mem.mpr (Or.inl (h3 j w (by omega) hw' l hl z hz))
theorem tmG_all {x : Cond} (cx : cn x) : ∀ (f k : Nat) (T : List Cond), lts x + 1 ≤ f + k → tmI x k T → tmI x (tmG f k T).length (tmG f k T)
  | 0, k, T, hf, h => by
    have := tmI_len h
    exact ⟨h.1, h.2.1, fun j y hj hy => h.2.2.1 j y (by have : j < T.length := hj; omega) hy, h.2.2.2⟩
  | f + 1, k, T, hf, h => by
    unfold tmG
    cases e : T[k]? with
    | none =>
      have := List.getElem?_eq_none_iff.mp e
      exact ⟨h.1, h.2.1, fun j y hj hy => h.2.2.1 j y (by have : j < T.length := hj; omega) hy, h.2.2.2⟩
    | some y => exact tmG_all cx f (k + 1) _ (by omega) (tmI_step cx h e)
/-- THE TERMS of a shape: each but once, the shape first, closed under parts, at most letters + 1 -/
theorem tms_all {x : Cond} (cx : cn x) (hl : lts x ≤ 31) : tmI x (tms x).length (tms x) := by
  refine tmG_all cx 32 0 [x] (by omega) ⟨nd_one _, fun z hz => Or.inl (List.mem_singleton.mp hz), fun j y hj => absurd hj (Nat.not_lt_zero _), rfl⟩
theorem tms_cl {x y z : Cond} {l : Nat} (cx : cn x) (hx : lts x ≤ 31) (hy : y ∈ tms x) (hl : l < 3) (hz : z ∈ pt y l) : z ∈ tms x := by
  obtain ⟨j, hj⟩ := List.getElem?_of_mem hy
  exact (tms_all cx hx).2.2.1 j y (List.getElem?_eq_some_iff.mp hj).1 hj l hl z hz
theorem tms_cn {x y : Cond} (cx : cn x) (hx : lts x ≤ 31) (hy : y ∈ tms x) : cn y := by
  rcases (tms_all cx hx).2.1 y hy with rfl | q
  · exact cx
  · exact (dp_cn cx y q).1
