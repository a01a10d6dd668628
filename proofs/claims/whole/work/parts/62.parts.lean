/-! PARTS BY A LETTER, and that they are few -/
def full : Cond → Bool
  | .count k => decide (k = 1)
  | .or a b => full a || full b
  | .and a b => full a && full b
  | .not _ => true
  | _ => false
/-- a product of two -/
def pj (x y : Cond) : Cond := sProd [x, y]
theorem pj_eq {x y : Cond} (hx : x ≠ S0) (hy : y ≠ S0) : pj x y = mkP (prodL x ++ prodL y) := by
  unfold pj sProd
  rw [if_neg (fun q => by
    rcases List.mem_cons.mp q with q | q
    · exact hx q.symm
    · exact hy (List.mem_singleton.mp q).symm)]
  rw [List.flatMap_cons, List.flatMap_cons, List.flatMap_nil, List.append_nil]
theorem pj_L {x y : Cond} (cx : cn x) (hx : x ≠ S0) (cy : cn y) (hy : y ≠ S0) : prodL (pj x y) = prodL x ++ prodL y ∧ cn (pj x y) ∧ pj x y ≠ S0 := by
  rw [pj_eq hx hy]
  have := prodL_mkP (l := prodL x ++ prodL y) (fun z hz => by
    rcases List.mem_append.mp hz with q | q
    · exact cn_prodL cx hx z q
    · exact cn_prodL cy hy z q)
  exact ⟨this.1, this.2.1, this.2.2.1⟩
theorem pj_assoc {x y z : Cond} (cx : cn x) (hx : x ≠ S0) (cy : cn y) (hy : y ≠ S0) (cz : cn z) (hz : z ≠ S0) : pj (pj x y) z = pj x (pj y z) := by
  have h1 := pj_L cx hx cy hy
  have h2 := pj_L cy hy cz hz
  rw [pj_eq h1.2.2 hz, pj_eq hx h2.2.2, h1.1, h2.1, List.append_assoc]
theorem pj_1l {y : Cond} (cy : cn y) (hy : y ≠ S0) : pj S1 y = y := by
  rw [pj_eq (by decide) hy, prodL_S1, List.nil_append, mkP_prodL cy]
theorem pj_1r {y : Cond} (cy : cn y) (hy : y ≠ S0) : pj y S1 = y := by
  rw [pj_eq hy (by decide), prodL_S1, List.append_nil, mkP_prodL cy]
theorem pj_and {a b : Cond} (pa : isProd a = false) (ha : a ≠ S0) (ha1 : a ≠ S1) (cb : cn b) (hb : b ≠ S0) (hb1 : b ≠ S1) : pj a b = .and a b := by
  rw [pj_eq ha hb, prodL_one pa ha1]
  have h2 := prodL_ne hb1
  have h3 := mkP_prodL cb
  cases e : prodL b with
  | nil => exact absurd e h2
  | cons y l => rw [e] at h3; show mkP (a :: y :: l) = _; rw [mkP, h3]
/-- the parts of a shape by a letter, in their order -/
def pt : Cond → Nat → List Cond
  | .count k, l => if k = 2 + l then [S1] else []
  | .or a b, l => ddp [] (pt a l ++ pt b l)
  | .and a b, l => ddp [] ((pt a l).map (fun y => pj y b) ++ if full a = true then pt b l else [])
  | .not a, l => ddp [] ((pt a l).map fun y => pj y (.not a))
  | _, _ => []
theorem mem_ddp0 {l : List Cond} {x : Cond} : x ∈ ddp [] l ↔ x ∈ l := by
  rw [ddp_mem]
  exact ⟨fun h => h.elim (fun q => by cases q) id, Or.inr⟩
theorem pt_or {a b z : Cond} {l : Nat} : z ∈ pt (.or a b) l ↔ z ∈ pt a l ∨ z ∈ pt b l := by
  show z ∈ ddp [] _ ↔ _
  rw [mem_ddp0, List.mem_append]
theorem pt_and {a b z : Cond} {l : Nat} : z ∈ pt (.and a b) l ↔ (∃ u ∈ pt a l, pj u b = z) ∨ (full a = true ∧ z ∈ pt b l) := by
  show z ∈ ddp [] _ ↔ _
  rw [mem_ddp0, List.mem_append, List.mem_map]
  by_cases h : full a = true
  · rw [if_pos h]; simp [h]
  · rw [if_neg h]; simp [h]
theorem pt_not {a z : Cond} {l : Nat} : z ∈ pt (.not a) l ↔ ∃ u ∈ pt a l, pj u (.not a) = z := by
  show z ∈ ddp [] _ ↔ _
  rw [mem_ddp0, List.mem_map]
theorem pt_cn : ∀ {x : Cond} {l : Nat}, cn x → ∀ z ∈ pt x l, cn z ∧ z ≠ S0 := by
  intro x l
  induction x with
  | count k =>
    intro _ z hz
    unfold pt at hz
    split at hz
    · rw [List.mem_singleton.mp hz]; exact ⟨show 1 < 5 by decide, by decide⟩
    · cases hz
  | or a b iha ihb =>
    intro h z hz
    rcases pt_or.mp hz with q | q
    · exact iha h.1 z q
    · exact ihb h.2.2.2.1 z q
  | and a b iha ihb =>
    intro h z hz
    rcases pt_and.mp hz with ⟨u, hu, rfl⟩ | ⟨-, q⟩
    · have := iha h.1 u hu
      exact (pj_L this.1 this.2 h.2.2.2.2.1 h.2.2.2.2.2.1).2
    · exact ihb h.2.2.2.2.1 z q
  | not a iha =>
    intro h z hz
    obtain ⟨u, hu, rfl⟩ := pt_not.mp hz
    have := iha h.1 u hu
    exact (pj_L this.1 this.2 h (by intro e; cases e)).2
  | _ => intro h; exact h.elim
/-- parts of a product of two -/
theorem pt_pj {b : Cond} {l : Nat} (cb : cn b) (hb : b ≠ S0) (hb1 : b ≠ S1) : ∀ {u : Cond}, cn u → u ≠ S0 → ∀ z ∈ pt (pj u b) l, (∃ v ∈ pt u l, pj v b = z) ∨ z ∈ pt b l := by
  have one : ∀ {u : Cond}, cn u → isProd u = false → u ≠ S0 → ∀ z ∈ pt (pj u b) l, (∃ v ∈ pt u l, pj v b = z) ∨ z ∈ pt b l := by
    intro u cu pu hu z hz
    by_cases h1 : u = S1
    · rw [h1, pj_1l cb hb] at hz; exact Or.inr hz
    · rw [pj_and pu hu h1 cb hb hb1] at hz
      rcases pt_and.mp hz with q | ⟨-, q⟩
      · exact Or.inl q
      · exact Or.inr q
  intro u
  induction u with
  | and u1 u2 _ ih2 =>
    intro cu hu z hz
    have c2 := cu.2.2.2.2.1
    have h2 := cu.2.2.2.2.2.1
    have hp := pj_L c2 h2 cb hb
    have hp1 : pj u2 b ≠ S1 := by
      intro e
      have := hp.1
      rw [e, prodL_S1] at this
      exact prodL_ne cu.2.2.2.2.2.2 (List.append_eq_nil_iff.mp this.symm).1
    have e : pj (.and u1 u2) b = .and u1 (pj u2 b) := by
      rw [← pj_and cu.2.1 cu.2.2.1 cu.2.2.2.1 c2 h2 cu.2.2.2.2.2.2, pj_assoc cu.1 cu.2.2.1 c2 h2 cb hb, pj_and cu.2.1 cu.2.2.1 cu.2.2.2.1 hp.2.1 hp.2.2 hp1]
    rw [e] at hz
    rcases pt_and.mp hz with ⟨v, hv, rfl⟩ | ⟨hf, q⟩
    · have hv' := pt_cn cu.1 v hv
      refine Or.inl ⟨pj v u2, pt_and.mpr (Or.inl ⟨v, hv, rfl⟩), pj_assoc hv'.1 hv'.2 c2 h2 cb hb⟩
    · rcases ih2 c2 h2 z q with ⟨v, hv, rfl⟩ | q
      · exact Or.inl ⟨v, pt_and.mpr (Or.inr ⟨hf, hv⟩), rfl⟩
      · exact Or.inr q
  | count k => intro cu hu; exact one cu rfl hu
  | or a c _ _ => intro cu hu; exact one cu rfl hu
  | not a _ => intro cu hu; exact one cu rfl hu
  | _ => intro cu; exact cu.elim
/-- all that parts of parts can be -/
def dp : Cond → List Cond
  | .count k => if 2 ≤ k then [S1] else []
  | .or a b => dp a ++ dp b
  | .and a b => (dp a).map (fun y => pj y b) ++ dp b
  | .not a => (dp a).map fun y => pj y (.not a)
  | _ => []
/-- how many letters -/
def lts : Cond → Nat
  | .count k => if 2 ≤ k then 1 else 0
  | .or a b => lts a + lts b
  | .and a b => lts a + lts b
  | .not a => lts a
  | _ => 0
theorem dp_len : ∀ x : Cond, (dp x).length = lts x := by
  intro x
  induction x with
  | count k => unfold dp lts; split <;> rfl
  | or a b iha ihb => show (dp a ++ dp b).length = _; rw [List.length_append, iha, ihb]; rfl
  | and a b iha ihb => show ((dp a).map _ ++ dp b).length = _; rw [List.length_append, List.length_map, iha, ihb]; rfl
  | not a iha => show ((dp a).map _).length = _; rw [List.length_map, iha]; rfl
  | _ => rfl
theorem lts_sp : ∀ (x : Cond) (p : Nat), lts x ≤ (sp x p).length := by
  intro x
  induction x with
  | count k => intro p; unfold lts; split <;> (show _ ≤ 1; omega)
  | or a b iha ihb =>
    intro p
    have := iha 0
    have := ihb 0
    show lts a + lts b ≤ (if p = 0 then sp a 0 ++ 43 :: sp b 0 else 40 :: (sp a 0 ++ 43 :: sp b 0 ++ [41])).length
    split <;> simp only [List.length_append, List.length_cons, List.length_nil] <;> omega
  | and a b iha ihb =>
    intro p
    have := iha 1
    have := ihb 1
    show lts a + lts b ≤ (if p = 2 then 40 :: (sp a 1 ++ sp b 1 ++ [41]) else sp a 1 ++ sp b 1).length
    split <;> simp only [List.length_append, List.length_cons, List.length_nil] <;> omega
  | not a iha =>
    intro p
    have := iha 2
    show lts a ≤ (sp a 2 ++ [42]).length
    rw [List.length_append]; omega
  | _ => intro p; exact Nat.zero_le _
theorem dp_pt : ∀ {x : Cond} {l : Nat}, ∀ z ∈ pt x l, z ∈ dp x := by
  intro x l
  induction x with
  | count k =>
    intro z hz
    unfold pt at hz
    split at hz
    · unfold dp; rw [if_pos (by omega)]; exact hz
    · cases hz
  | or a b iha ihb =>
    intro z hz
    show z ∈ dp a ++ dp b
    rcases pt_or.mp hz with q | q
    · exact List.mem_append_left _ (iha z q)
    · exact List.mem_append_right _ (ihb z q)
  | and a b iha ihb =>
    intro z hz
    show z ∈ (dp a).map _ ++ dp b
    rcases pt_and.mp hz with ⟨u, hu, rfl⟩ | ⟨-, q⟩
    · exact List.mem_append_left _ (List.mem_map.mpr ⟨u, iha u hu, rfl⟩)
    · exact List.mem_append_right _ (ihb z q)
  | not a iha =>
    intro z hz
    obtain ⟨u, hu, rfl⟩ := pt_not.mp hz
    exact List.mem_map.mpr ⟨u, iha u hu, rfl⟩
  | _ => intro z hz; cases hz
theorem dp_cn : ∀ {x : Cond}, cn x → ∀ z ∈ dp x, cn z ∧ z ≠ S0 := by
  intro x
  induction x with
  | count k =>
    intro _ z hz
    unfold dp at hz
    split at hz
    · rw [List.mem_singleton.mp hz]; exact ⟨show 1 < 5 by decide, by decide⟩
    · cases hz
  | or a b iha ihb =>
    intro h z hz
    rcases List.mem_append.mp hz with q | q
    · exact iha h.1 z q
    · exact ihb h.2.2.2.1 z q
  | and a b iha ihb =>
    intro h z hz
    rcases List.mem_append.mp hz with q | q
    · obtain ⟨u, hu, rfl⟩ := List.mem_map.mp q
      have := iha h.1 u hu
      exact (pj_L this.1 this.2 h.2.2.2.2.1 h.2.2.2.2.2.1).2
    · exact ihb h.2.2.2.2.1 z q
  | not a iha =>
    intro h z hz
    obtain ⟨u, hu, rfl⟩ := List.mem_map.mp hz
    have := iha h.1 u hu
    exact (pj_L this.1 this.2 h (by intro e; cases e)).2
  | _ => intro h; exact h.elim
/-- parts of parts are among them -/
theorem dp_cl : ∀ {x : Cond} {l : Nat}, cn x → ∀ y ∈ dp x, ∀ z ∈ pt y l, z ∈ dp x := by
  intro x l
  induction x with
  | count k =>
    intro _ y hy z hz
    unfold dp at hy
    split at hy
    · rw [List.mem_singleton.mp hy] at hz
      unfold pt at hz
      rw [if_neg (by omega)] at hz
      cases hz
    · cases hy
  | or a b iha ihb =>
    intro h y hy z hz
    rcases List.mem_append.mp hy with q | q
    · exact List.mem_append_left _ (iha h.1 y q z hz)
    · exact List.mem_append_right _ (ihb h.2.2.2.1 y q z hz)
  | and a b iha ihb =>
    intro h y hy z hz
    rcases List.mem_append.mp hy with q | q
    · obtain ⟨u, hu, rfl⟩ := List.mem_map.mp q
      have hc := dp_cn h.1 u hu
      rcases pt_pj h.2.2.2.2.1 h.2.2.2.2.2.1 h.2.2.2.2.2.2 hc.1 hc.2 z hz with ⟨v, hv, rfl⟩ | q
      · exact List.mem_append_left _ (List.mem_map.mpr ⟨v, iha h.1 u hu v hv, rfl⟩)
      · exact List.mem_append_right _ (dp_pt z q)
    · exact List.mem_append_right _ (ihb h.2.2.2.2.1 y q z hz)
  | not a iha =>
    intro h y hy z hz
    obtain ⟨u, hu, rfl⟩ := List.mem_map.mp hy
    have hc := dp_cn h.1 u hu
    rcases pt_pj h (by intro e; cases e) (by intro e; cases e) hc.1 hc.2 z hz with ⟨v, hv, rfl⟩ | q
    · exact List.mem_map.mpr ⟨v, iha h.1 u hu v hv, rfl⟩
    · obtain ⟨v, hv, rfl⟩ := pt_not.mp q
      exact List.mem_map.mpr ⟨v, dp_pt v hv, rfl⟩
  | _ => intro h; exact h.elim
/-- each but once among others: no more than these -/
theorem nd_le : ∀ {l m : List Cond}, l.Nodup → (∀ x ∈ l, x ∈ m) → l.length ≤ m.length
  | [], m, _, _ => Nat.zero_le _
  | x :: l, m, h, hs => by
    have hn := List.nodup_cons.mp h
    have hx := hs x List.mem_cons_self
    have := nd_le (l := l) (m := m.erase x) hn.2 (fun y hy => (List.mem_erase_of_ne (show y ≠ x from fun e => hn.1 (by rw [← e]; exact hy))).mpr (hs y (List.mem_cons_of_mem _ hy)))
    rw [List.length_erase_of_mem hx] at this
    have : 0 < m.length := List.length_pos_of_mem hx
    rw [List.length_cons]
    omega
