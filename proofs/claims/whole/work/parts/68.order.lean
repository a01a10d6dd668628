/-! THE ORDER OF PARTS: what comes twice may be left out at once, or at the end -/
theorem ddp_skip {acc l : List Cond} {x : Cond} (h : x ∈ acc) : ddp acc (x :: l) = ddp acc l := by rw [ddp_cons, if_pos h]
theorem ddp_map {f : Cond → Cond} {A : List Cond} : ∀ {l acc : List Cond}, ddp A ((ddp acc l).map f) = ddp A ((acc ++ l).map f)
  | [], acc => by rw [List.append_nil]; rfl
  | x :: l, acc => by
    rw [ddp_cons]
    split
    · rename_i hx
      rw [ddp_map, List.map_append, List.map_append, List.map_cons, ddp_app, ddp_app, ddp_skip]
      exact ddp_mem.mpr (Or.inr (List.mem_map.mpr ⟨x, hx, rfl⟩))
    · rw [ddp_map, List.append_assoc]; rfl
theorem ddp_ddp {A l : List Cond} : ddp A (ddp [] l) = ddp A l := by
  have := ddp_map (f := id) (A := A) (l := l) (acc := [])
  rw [List.map_id, List.map_id, List.nil_append] at this
  exact this
theorem ddp_map0 {f : Cond → Cond} {A l : List Cond} : ddp A ((ddp [] l).map f) = ddp A (l.map f) := by
  have := ddp_map (f := f) (A := A) (l := l) (acc := [])
  rw [List.nil_append] at this
  exact this
/-- the parts as they come, some of them twice -/
def rwp : Cond → Nat → List Cond
  | .count k, l => if k = 2 + l then [S1] else []
  | .or a b, l => rwp a l ++ rwp b l
  | .and a b, l => (rwp a l).map (fun y => pj y b) ++ if full a = true then rwp b l else []
  | .not a, l => (rwp a l).map fun y => pj y (.not a)
  | _, _ => []
theorem pt_rwp : ∀ (x : Cond) (l : Nat), pt x l = ddp [] (rwp x l) := by
  intro x l
  induction x with
  | count k =>
    show (if k = 2 + l then [S1] else []) = ddp [] (if k = 2 + l then [S1] else [])
    split <;> rfl
  | or a b iha ihb =>
    show ddp [] (pt a l ++ pt b l) = ddp [] (rwp a l ++ rwp b l)
    rw [iha, ihb, ddp_app, ddp_ddp, ddp_ddp, ddp_app]
  | and a b iha ihb =>
    show ddp [] ((pt a l).map (fun y => pj y b) ++ if full a = true then pt b l else []) = ddp [] ((rwp a l).map (fun y => pj y b) ++ if full a = true then rwp b l else [])
    rw [iha, ihb, ddp_app, ddp_app, ddp_map0]
    split
    · rw [ddp_ddp]
    · rfl
  | not a iha =>
    show ddp [] ((pt a l).map fun y => pj y (.not a)) = ddp [] ((rwp a l).map fun y => pj y (.not a))
    rw [iha, ddp_map0]
  | _ => rfl
theorem pt_self (x : Cond) (l : Nat) : ddp [] (pt x l) = pt x l := by rw [pt_rwp, ddp_ddp]
/-- the parts of a sum: those of its summands, one after the other -/
theorem pt_sumL : ∀ {x : Cond} {l : Nat}, cn x → x ≠ S0 → pt x l = ddp [] ((sumL x).flatMap fun y => pt y l) := by
  have one : ∀ {x : Cond} {l : Nat}, isSum x = false → x ≠ S0 → pt x l = ddp [] ((sumL x).flatMap fun y => pt y l) := by
    intro x l h h0
    rw [sumL_one h h0, List.flatMap_cons, List.flatMap_nil, List.append_nil, pt_self]
  intro x l
  induction x with
  | or a b _ ihb =>
    intro h _
    rw [sumL_or, List.flatMap_cons]
    show ddp [] (pt a l ++ pt b l) = _
    rw [ihb h.2.2.2.1 h.2.2.2.2.1, ddp_app, ddp_app, ddp_ddp]
  | count k => intro _ h0; exact one rfl h0
  | not a _ => intro _ h0; exact one rfl h0
  | and a b _ _ => intro _ h0; exact one rfl h0
  | _ => intro h; exact h.elim
theorem rwp_cn : ∀ {x : Cond} {l : Nat}, cn x → ∀ z ∈ rwp x l, cn z ∧ z ≠ S0 := by
  intro x l h z hz
  refine pt_cn (l := l) h z ?_
  rw [pt_rwp]
  exact mem_ddp0.mpr hz
/-- the parts of a product of two, as they come -/
theorem rwp_pj {b : Cond} {l : Nat} (cb : cn b) (hb : b ≠ S0) : ∀ (u : Cond), cn u → u ≠ S0 → rwp (pj u b) l = (rwp u l).map (fun y => pj y b) ++ if full u = true then rwp b l else [] := by
  by_cases hb1 : b = S1
  · subst hb1
    intro u cu hu
    rw [pj_1r cu hu]
    have e : (rwp u l).map (fun y => pj y S1) = rwp u l := by
      have : ∀ t : List Cond, (∀ z ∈ t, cn z ∧ z ≠ S0) → t.map (fun y => pj y S1) = t := by
        intro t
        induction t with
        | nil => intro _; rfl
        | cons z t ih => intro q; rw [List.map_cons, pj_1r (q z List.mem_cons_self).1 (q z List.mem_cons_self).2, ih (fun w hw => q w (List.mem_cons_of_mem _ hw))]
      exact this _ (rwp_cn cu)
    rw [e]
    have e1 : rwp S1 l = [] := by
      show (if 1 = 2 + l then [S1] else []) = []
      rw [if_neg (by omega)]
    rw [e1]
    split <;> rw [List.append_nil]
  have one : ∀ {u : Cond}, cn u → isProd u = false → u ≠ S0 → rwp (pj u b) l = (rwp u l).map (fun y => pj y b) ++ if full u = true then rwp b l else [] := by
    intro u cu pu hu
    by_cases h1 : u = S1
    · rw [h1, pj_1l cb hb]
      have e1 : rwp S1 l = [] := by
        show (if 1 = 2 + l then [S1] else []) = []
        rw [if_neg (by omega)]
      rw [e1]; rfl
    · rw [pj_and pu hu h1 cb hb hb1]; rfl
  intro u
  induction u with
  | and u1 u2 _ ih2 =>
    intro cu hu
    have c2 := cu.2.2.2.2.1
    have h2 := cu.2.2.2.2.2.1
    have hp := pj_L c2 h2 cb hb
    have hp1 : pj u2 b ≠ S1 := by
      intro e
      have := hp.1
      rw [e, prodL_S1] at this
      exact prodL_ne cu.2.2.2.2.2.2 (List.append_eq_nil_iff.mp this.symm).1
    have e : pj (.and u1 u2) b = .and u1 (pj u2 b) := by
      rw [← pj_and cu.2.1 cu.2.2.1 cu.2.2.2.1 c2 h2 cu.2.2.2.2.2.2, pj_assoc cu.1 cu.2.2.1 c2 h2 cb hb, pj_and cu.2.1 cu.2.2.1 cu.2.2.2.1 hp.2.1 hp.2.2 hp1]
    rw [e]
    show (rwp u1 l).map (fun y => pj y (pj u2 b)) ++ (if full u1 = true then rwp (pj u2 b) l else []) = ((rwp u1 l).map (fun y => pj y u2) ++ if full u1 = true then rwp u2 l else []).map (fun y => pj y b) ++ if (full u1 && full u2) = true then rwp b l else []
    rw [ih2 c2 h2, List.map_append, List.map_map]
    have e2 : (rwp u1 l).map ((fun y => pj y b) ∘ fun y => pj y u2) = (rwp u1 l).map (fun y => pj y (pj u2 b)) := by
      have : ∀ t : List Cond, (∀ z ∈ t, cn z ∧ z ≠ S0) → t.map ((fun y => pj y b) ∘ fun y => pj y u2) = t.map (fun y => pj y (pj u2 b)) := by
        intro t
        induction t with
        | nil => intro _; rfl
        | cons z t ih =>
          intro q
          rw [List.map_cons, List.map_cons, ih (fun w hw => q w (List.mem_cons_of_mem _ hw))]
          show pj (pj z u2) b :: _ = _
          rw [pj_assoc (q z List.mem_cons_self).1 (q z List.mem_cons_self).2 c2 h2 cb hb]
      exact this _ (rwp_cn cu.1)
    rw [e2]
    cases full u1 with
    | false => simp
    | true => simp only [if_true, Bool.true_and, List.append_assoc]
  | count k => intro cu hu; exact one cu rfl hu
  | or a c _ _ => intro cu hu; exact one cu rfl hu
  | not a _ => intro cu hu; exact one cu rfl hu
  | _ => intro cu; exact cu.elim
