/-! ALL SHAPES THAT COME WHILE PARTS ARE LAID: few -/
/-- what stands behind a letter, and behind that -/
def sf : Cond → List Cond
  | .or a b => sf a ++ sf b
  | .and a b => (sf a).map (fun y => pj y b) ++ b :: sf b
  | .not a => (sf a).map (fun y => pj y (.not a)) ++ [.not a]
  | _ => []
def nw : Cond → List Cond
  | .or a b => .or a b :: (nw a ++ nw b)
  | .and a b => .and a b :: (nw a ++ nw b ++ (sf a).map (fun y => pj y b))
  | .not a => .not a :: (nw a ++ (sf a).map (fun y => pj y (.not a)))
  | x => [x]
theorem dq_dp : ∀ {x : Cond}, ∀ q ∈ dq x, q.2 ∈ dp x := by
  intro x
  induction x with
  | count k =>
    intro q hq
    unfold dq at hq
    unfold dp
    split at hq
    · rename_i hk
      rw [if_pos hk, List.mem_singleton.mp hq]; exact List.mem_cons_self
    · cases hq
  | or a b iha ihb =>
    intro q hq
    rcases List.mem_append.mp hq with g | g
    · exact List.mem_append_left _ (iha q g)
    · exact List.mem_append_right _ (ihb q g)
  | and a b iha ihb =>
    intro q hq
    rcases List.mem_append.mp hq with g | g
    · obtain ⟨u, hu, rfl⟩ := List.mem_map.mp g
      exact List.mem_append_left _ (List.mem_map.mpr ⟨u.2, iha u hu, rfl⟩)
    · exact List.mem_append_right _ (ihb q g)
  | not a iha =>
    intro q hq
    obtain ⟨u, hu, rfl⟩ := List.mem_map.mp hq
    exact List.mem_map.mpr ⟨u.2, iha u hu, rfl⟩
  | _ => intro q hq; cases hq
/-- a product of two is nested to the right -/
theorem pj_and2 {u1 u2 b : Cond} (cu : cn (.and u1 u2)) (cb : cn b) (hb : b ≠ S0) : pj (.and u1 u2) b = .and u1 (pj u2 b) := by
  have c2 := cu.2.2.2.2.1
  have h2 := cu.2.2.2.2.2.1
  have hp := pj_L c2 h2 cb hb
  have hp1 : pj u2 b ≠ S1 := by
    intro e
    have := hp.1
    rw [e, prodL_S1] at this
    exact prodL_ne cu.2.2.2.2.2.2 (List.append_eq_nil_iff.mp this.symm).1
  rw [← pj_and cu.2.1 cu.2.2.1 cu.2.2.2.1 c2 h2 cu.2.2.2.2.2.2, pj_assoc cu.1 cu.2.2.1 c2 h2 cb hb, pj_and cu.2.1 cu.2.2.1 cu.2.2.2.1 hp.2.1 hp.2.2 hp1]
theorem pj_n1 {u b : Cond} (cu : cn u) (hu : u ≠ S0) (cb : cn b) (hb : b ≠ S0) (hb1 : b ≠ S1) : pj u b ≠ S1 := by
  intro e
  have := (pj_L cu hu cb hb).1
  rw [e, prodL_S1] at this
  exact prodL_ne hb1 (List.append_eq_nil_iff.mp this.symm).2
theorem dq_pj {b : Cond} (cb : cn b) (hb : b ≠ S0) (hb1 : b ≠ S1) : ∀ {u : Cond}, cn u → u ≠ S0 → ∀ q ∈ dq (pj u b), (∃ r ∈ dq u, q = (r.1, pj r.2 b)) ∨ q ∈ dq b := by
  have one : ∀ {u : Cond}, cn u → isProd u = false → u ≠ S0 → ∀ q ∈ dq (pj u b), (∃ r ∈ dq u, q = (r.1, pj r.2 b)) ∨ q ∈ dq b := by
    intro u cu pu hu q hq
    by_cases h1 : u = S1
    · rw [h1, pj_1l cb hb] at hq; exact Or.inr hq
    · rw [pj_and pu hu h1 cb hb hb1] at hq
      rcases List.mem_append.mp hq with g | g
      · obtain ⟨r, hr, rfl⟩ := List.mem_map.mp g
        exact Or.inl ⟨r, hr, rfl⟩
      · exact Or.inr g
  intro u
  induction u with
  | and u1 u2 _ ih2 =>
    intro cu hu q hq
    have c2 := cu.2.2.2.2.1
    have h2 := cu.2.2.2.2.2.1
    rw [pj_and2 cu cb hb] at hq
    rcases List.mem_append.mp hq with g | g
    · obtain ⟨r, hr, rfl⟩ := List.mem_map.mp g
      have hc := dp_cn cu.1 r.2 (dq_dp r hr)
      refine Or.inl ⟨(r.1, pj r.2 u2), List.mem_append_left _ (List.mem_map.mpr ⟨r, hr, rfl⟩), ?_⟩
      show (r.1, pj r.2 (pj u2 b)) = (r.1, pj (pj r.2 u2) b)
      rw [pj_assoc hc.1 hc.2 c2 h2 cb hb]
    · rcases ih2 c2 h2 q g with ⟨r, hr, rfl⟩ | g
      · exact Or.inl ⟨r, List.mem_append_right _ hr, rfl⟩
      · exact Or.inr g
  | count k => intro cu hu; exact one cu rfl hu
  | or a c _ _ => intro cu hu; exact one cu rfl hu
  | not a _ => intro cu hu; exact one cu rfl hu
  | _ => intro cu; exact cu.elim
theorem sf_cn : ∀ {x : Cond}, cn x → ∀ u ∈ sf x, cn u ∧ u ≠ S0 ∧ u ≠ S1 := by
  intro x
  induction x with
  | or a b iha ihb =>
    intro h u hu
    rcases List.mem_append.mp hu with g | g
    · exact iha h.1 u g
    · exact ihb h.2.2.2.1 u g
  | and a b iha ihb =>
    intro h u hu
    rcases List.mem_append.mp hu with g | g
    · obtain ⟨v, hv, rfl⟩ := List.mem_map.mp g
      have hc := iha h.1 v hv
      exact ⟨(pj_L hc.1 hc.2.1 h.2.2.2.2.1 h.2.2.2.2.2.1).2.1, (pj_L hc.1 hc.2.1 h.2.2.2.2.1 h.2.2.2.2.2.1).2.2, pj_n1 hc.1 hc.2.1 h.2.2.2.2.1 h.2.2.2.2.2.1 h.2.2.2.2.2.2⟩
    · rcases List.mem_cons.mp g with rfl | g
      · exact ⟨h.2.2.2.2.1, h.2.2.2.2.2.1, h.2.2.2.2.2.2⟩
      · exact ihb h.2.2.2.2.1 u g
  | not a iha =>
    intro h u hu
    have n0 : Cond.not a ≠ S0 := by intro e; cases e
    have n1 : Cond.not a ≠ S1 := by intro e; cases e
    rcases List.mem_append.mp hu with g | g
    · obtain ⟨v, hv, rfl⟩ := List.mem_map.mp g
      have hc := iha h.1 v hv
      exact ⟨(pj_L hc.1 hc.2.1 h n0).2.1, (pj_L hc.1 hc.2.1 h n0).2.2, pj_n1 hc.1 hc.2.1 h n0 n1⟩
    · rw [List.mem_singleton.mp g]; exact ⟨h, n0, n1⟩
  | _ => intro h u hu; cases hu
theorem sf_dq : ∀ {x : Cond}, cn x → ∀ u ∈ sf x, ∀ q ∈ dq u, q ∈ dq x := by
  intro x
  induction x with
  | or a b iha ihb =>
    intro h u hu q hq
    rcases List.mem_append.mp hu with g | g
    · exact List.mem_append_left _ (iha h.1 u g q hq)
    · exact List.mem_append_right _ (ihb h.2.2.2.1 u g q hq)
  | and a b iha ihb =>
    intro h u hu q hq
    rcases List.mem_append.mp hu with g | g
    · obtain ⟨v, hv, rfl⟩ := List.mem_map.mp g
      have hc := sf_cn h.1 v hv
      rcases dq_pj h.2.2.2.2.1 h.2.2.2.2.2.1 h.2.2.2.2.2.2 hc.1 hc.2.1 q hq with ⟨r, hr, rfl⟩ | g
      · exact List.mem_append_left _ (List.mem_map.mpr ⟨r, iha h.1 v hv r hr, rfl⟩)
      · exact List.mem_append_right _ g
    · rcases List.mem_cons.mp g with rfl | g
      · exact List.mem_append_right _ hq
      · exact List.mem_append_right _ (ihb h.2.2.2.2.1 u g q hq)
  | not a iha =>
    intro h u hu q hq
    rcases List.mem_append.mp hu with g | g
    · obtain ⟨v, hv, rfl⟩ := List.mem_map.mp g
      have hc := sf_cn h.1 v hv
      rcases dq_pj h (by intro e; cases e) (by intro e; cases e) hc.1 hc.2.1 q hq with ⟨r, hr, rfl⟩ | g
      · exact List.mem_map.mpr ⟨r, iha h.1 v hv r hr, rfl⟩
      · exact g
    · rw [List.mem_singleton.mp g] at hq; exact hq
  | _ => intro h u hu; cases hu
theorem dp_sf : ∀ {x : Cond}, cn x → ∀ z ∈ dp x, z = S1 ∨ z ∈ sf x := by
  intro x
  induction x with
  | count k =>
    intro _ z hz
    unfold dp at hz
    split at hz
    · exact Or.inl (List.mem_singleton.mp hz)
    · cases hz
  | or a b iha ihb =>
    intro h z hz
    rcases List.mem_append.mp hz with g | g
    · exact (iha h.1 z g).imp id (List.mem_append_left _)
    · exact (ihb h.2.2.2.1 z g).imp id (List.mem_append_right _)
  | and a b iha ihb =>
    intro h z hz
    rcases List.mem_append.mp hz with g | g
    · obtain ⟨u, hu, rfl⟩ := List.mem_map.mp g
      rcases iha h.1 u hu with rfl | q
      · rw [pj_1l h.2.2.2.2.1 h.2.2.2.2.2.1]
        exact Or.inr (List.mem_append_right _ List.mem_cons_self)
      · exact Or.inr (List.mem_append_left _ (List.mem_map.mpr ⟨u, q, rfl⟩))
    · exact (ihb h.2.2.2.2.1 z g).imp id (fun q => List.mem_append_right _ (List.mem_cons_of_mem _ q))
  | not a iha =>
    intro h z hz
    obtain ⟨u, hu, rfl⟩ := List.mem_map.mp hz
    rcases iha h.1 u hu with rfl | q
    · rw [pj_1l h (by intro e; cases e)]
      exact Or.inr (List.mem_append_right _ List.mem_cons_self)
    · exact Or.inr (List.mem_append_left _ (List.mem_map.mpr ⟨u, q, rfl⟩))
  | _ => intro h z hz; cases hz
theorem pj_split {v b c e : Cond} (cv : cn v) (hv : v ≠ S0) (hv1 : v ≠ S1) (cb : cn b) (hb : b ≠ S0) (hb1 : b ≠ S1) (h : pj v b = .and c e) : (∃ e', v = .and c e' ∧ e = pj e' b) ∨ (c = v ∧ e = b) := by
  cases v with
  | and v1 v2 =>
    rw [pj_and2 cv cb hb] at h
    cases h
    exact Or.inl ⟨v2, rfl, rfl⟩
  | count k => rw [pj_and rfl hv hv1 cb hb hb1] at h; cases h; exact Or.inr ⟨rfl, rfl⟩
  | or x y => rw [pj_and rfl hv hv1 cb hb hb1] at h; cases h; exact Or.inr ⟨rfl, rfl⟩
  | not x => rw [pj_and rfl hv hv1 cb hb hb1] at h; cases h; exact Or.inr ⟨rfl, rfl⟩
  | _ => exact cv.elim
theorem sf_rest : ∀ {x : Cond}, cn x → ∀ c e, .and c e ∈ sf x → e ∈ sf x := by
  intro x
  induction x with
  | or a b iha ihb =>
    intro h c e hu
    rcases List.mem_append.mp hu with g | g
    · exact List.mem_append_left _ (iha h.1 c e g)
    · exact List.mem_append_right _ (ihb h.2.2.2.1 c e g)
  | and a b iha ihb =>
    intro h c e hu
    rcases List.mem_append.mp hu with g | g
    · obtain ⟨v, hv, he⟩ := List.mem_map.mp g
      have hc := sf_cn h.1 v hv
      rcases pj_split hc.1 hc.2.1 hc.2.2 h.2.2.2.2.1 h.2.2.2.2.2.1 h.2.2.2.2.2.2 he with ⟨e', rfl, rfl⟩ | ⟨rfl, rfl⟩
      · exact List.mem_append_left _ (List.mem_map.mpr ⟨e', iha h.1 _ _ hv, rfl⟩)
      · exact List.mem_append_right _ List.mem_cons_self
    · rcases List.mem_cons.mp g with g | g
      · subst g
        exact List.mem_append_right _ (List.mem_cons_of_mem _ (List.mem_append_right _ List.mem_cons_self))
      · exact List.mem_append_right _ (List.mem_cons_of_mem _ (ihb h.2.2.2.2.1 c e g))
  | not a iha =>
    intro h c e hu
    rcases List.mem_append.mp hu with g | g
    · obtain ⟨v, hv, he⟩ := List.mem_map.mp g
      have hc := sf_cn h.1 v hv
      rcases pj_split hc.1 hc.2.1 hc.2.2 h (by intro e; cases e) (by intro e; cases e) he with ⟨e', rfl, rfl⟩ | ⟨rfl, rfl⟩
      · exact List.mem_append_left _ (List.mem_map.mpr ⟨e', iha h.1 _ _ hv, rfl⟩)
      · exact List.mem_append_right _ List.mem_cons_self
    · have := List.mem_singleton.mp g
      cases this
  | _ => intro h c e hu; cases hu
theorem nw_self (x : Cond) : x ∈ nw x := by
  cases x <;> exact List.mem_cons_self
theorem sf_nw : ∀ {x : Cond}, ∀ u ∈ sf x, u ∈ nw x := by
  intro x
  induction x with
  | or a b iha ihb =>
    intro u hu
    rcases List.mem_append.mp hu with g | g
    · exact List.mem_cons_of_mem _ (List.mem_append_left _ (iha u g))
    · exact List.mem_cons_of_mem _ (List.mem_append_right _ (ihb u g))
  | and a b iha ihb =>
    intro u hu
    rcases List.mem_append.mp hu with g | g
    · exact List.mem_cons_of_mem _ (List.mem_append_right _ g)
    · rcases List.mem_cons.mp g with rfl | g
      · exact List.mem_cons_of_mem _ (List.mem_append_left _ (List.mem_append_right _ (nw_self _)))
      · exact List.mem_cons_of_mem _ (List.mem_append_left _ (List.mem_append_right _ (ihb u g)))
  | not a iha =>
    intro u hu
    rcases List.mem_append.mp hu with g | g
    · exact List.mem_cons_of_mem _ (List.mem_append_right _ g)
    · rw [List.mem_singleton.mp g]; exact List.mem_cons_self
  | _ => intro u hu; cases hu
theorem sumL_nw {b : Cond} (h : ∀ c ∈ chl b, c ∈ nw b) : ∀ c ∈ sumL b, c ∈ nw b := by
  intro c hc
  cases b with
  | or a e => exact h c hc
  | count k =>
    have hc : c ∈ (if Cond.count k = S0 then [] else [Cond.count k]) := hc
    split at hc
    · cases hc
    · rw [List.mem_singleton.mp hc]; exact nw_self _
  | _ => rw [List.mem_singleton.mp hc]; exact nw_self _
theorem prodL_nw {b : Cond} (h : ∀ c ∈ chl b, c ∈ nw b) : ∀ c ∈ prodL b, c ∈ nw b := by
  intro c hc
  cases b with
  | and a e => exact h c hc
  | count k =>
    have hc : c ∈ (if Cond.count k = S1 then [] else [Cond.count k]) := hc
    split at hc
    · cases hc
    · rw [List.mem_singleton.mp hc]; exact nw_self _
  | _ => rw [List.mem_singleton.mp hc]; exact nw_self _
theorem chl_prodL {z : Cond} (h : isProd z = true) : chl z = prodL z := by
  cases z <;> first | rfl | cases h
theorem pj_isP {u b : Cond} (cu : cn u) (hu : u ≠ S0) (hu1 : u ≠ S1) (cb : cn b) (hb : b ≠ S0) (hb1 : b ≠ S1) : isProd (pj u b) = true := by
  cases u with
  | and v1 v2 => rw [pj_and2 cu cb hb]; rfl
  | count k => rw [pj_and rfl hu hu1 cb hb hb1]; rfl
  | or x y => rw [pj_and rfl hu hu1 cb hb hb1]; rfl
  | not x => rw [pj_and rfl hu hu1 cb hb hb1]; rfl
  | _ => exact cu.elim
/-- children of these are among them -/
theorem nw_chl : ∀ {x : Cond}, cn x → ∀ z ∈ nw x, ∀ c ∈ chl z, c ∈ nw x := by
  intro x
  induction x with
  | or a b iha ihb =>
    intro h z hz c hc
    rcases List.mem_cons.mp hz with rfl | g
    · rcases List.mem_cons.mp hc with rfl | g
      · exact List.mem_cons_of_mem _ (List.mem_append_left _ (nw_self _))
      · exact List.mem_cons_of_mem _ (List.mem_append_right _ (sumL_nw (ihb h.2.2.2.1 b (nw_self b)) c g))
    · rcases List.mem_append.mp g with g | g
      · exact List.mem_cons_of_mem _ (List.mem_append_left _ (iha h.1 z g c hc))
      · exact List.mem_cons_of_mem _ (List.mem_append_right _ (ihb h.2.2.2.1 z g c hc))
  | and a b iha ihb =>
    intro h z hz c hc
    have inb : ∀ c ∈ nw b, c ∈ nw (.and a b) := fun c g => List.mem_cons_of_mem _ (List.mem_append_left _ (List.mem_append_right _ g))
    have ina : ∀ c ∈ nw a, c ∈ nw (.and a b) := fun c g => List.mem_cons_of_mem _ (List.mem_append_left _ (List.mem_append_left _ g))
    rcases List.mem_cons.mp hz with rfl | g
    · rcases List.mem_cons.mp hc with rfl | g
      · exact ina _ (nw_self _)
      · exact inb c (prodL_nw (ihb h.2.2.2.2.1 b (nw_self b)) c g)
    · rcases List.mem_append.mp g with g | g
      · rcases List.mem_append.mp g with g | g
        · exact ina c (iha h.1 z g c hc)
        · exact inb c (ihb h.2.2.2.2.1 z g c hc)
      · obtain ⟨v, hv, rfl⟩ := List.mem_map.mp g
        have cv := sf_cn h.1 v hv
        rw [chl_prodL (pj_isP cv.1 cv.2.1 cv.2.2 h.2.2.2.2.1 h.2.2.2.2.2.1 h.2.2.2.2.2.2), (pj_L cv.1 cv.2.1 h.2.2.2.2.1 h.2.2.2.2.2.1).1] at hc
        rcases List.mem_append.mp hc with g | g
        · refine ina c ?_
          by_cases hp : isProd v = true
          · rw [← chl_prodL hp] at g
            exact iha h.1 v (sf_nw v hv) c g
          · rw [prodL_one (by simpa using hp) cv.2.2] at g
            rw [List.mem_singleton.mp g]; exact sf_nw v hv
        · exact inb c (prodL_nw (ihb h.2.2.2.2.1 b (nw_self b)) c g)
  | not a iha =>
    intro h z hz c hc
    have ina : ∀ c ∈ nw a, c ∈ nw (.not a) := fun c g => List.mem_cons_of_mem _ (List.mem_append_left _ g)
    rcases List.mem_cons.mp hz with rfl | g
    · rw [List.mem_singleton.mp hc]; exact ina _ (nw_self _)
    · rcases List.mem_append.mp g with g | g
      · exact ina c (iha h.1 z g c hc)
      · obtain ⟨v, hv, rfl⟩ := List.mem_map.mp g
        have cv := sf_cn h.1 v hv
        have n0 : Cond.not a ≠ S0 := by intro e; cases e
        have n1 : Cond.not a ≠ S1 := by intro e; cases e
        rw [chl_prodL (pj_isP cv.1 cv.2.1 cv.2.2 h n0 n1), (pj_L cv.1 cv.2.1 h n0).1] at hc
        rcases List.mem_append.mp hc with g | g
        · refine ina c ?_
          by_cases hp : isProd v = true
          · rw [← chl_prodL hp] at g
            exact iha h.1 v (sf_nw v hv) c g
          · rw [prodL_one (by simpa using hp) cv.2.2] at g
            rw [List.mem_singleton.mp g]; exact sf_nw v hv
        · have g : c ∈ [Cond.not a] := g
          rw [List.mem_singleton.mp g]; exact List.mem_cons_self
  | count k => intro h z hz c hc; rw [List.mem_singleton.mp hz] at hc; cases hc
  | _ => intro h; exact h.elim
theorem nw_rest : ∀ {x : Cond}, cn x → ∀ c e, .and c e ∈ nw x → e ∈ nw x := by
  intro x
  induction x with
  | or a b iha ihb =>
    intro h c e hz
    rcases List.mem_cons.mp hz with g | g
    · cases g
    · rcases List.mem_append.mp g with g | g
      · exact List.mem_cons_of_mem _ (List.mem_append_left _ (iha h.1 c e g))
      · exact List.mem_cons_of_mem _ (List.mem_append_right _ (ihb h.2.2.2.1 c e g))
  | and a b iha ihb =>
    intro h c e hz
    have inb : ∀ c ∈ nw b, c ∈ nw (.and a b) := fun c g => List.mem_cons_of_mem _ (List.mem_append_left _ (List.mem_append_right _ g))
    have ina : ∀ c ∈ nw a, c ∈ nw (.and a b) := fun c g => List.mem_cons_of_mem _ (List.mem_append_left _ (List.mem_append_left _ g))
    rcases List.mem_cons.mp hz with g | g
    · cases g; exact inb _ (nw_self _)
    · rcases List.mem_append.mp g with g | g
      · rcases List.mem_append.mp g with g | g
        · exact ina _ (iha h.1 c e g)
        · exact inb _ (ihb h.2.2.2.2.1 c e g)
      · have : .and c e ∈ sf (.and a b) := List.mem_append_left _ g
        exact sf_nw _ (sf_rest h c e this)
  | not a iha =>
    intro h c e hz
    rcases List.mem_cons.mp hz with g | g
    · cases g
    · rcases List.mem_append.mp g with g | g
      · exact List.mem_cons_of_mem _ (List.mem_append_left _ (iha h.1 c e g))
      · have : .and c e ∈ sf (.not a) := List.mem_append_left _ g
        exact sf_nw _ (sf_rest h c e this)
  | count k => intro h c e hz; have := List.mem_singleton.mp hz; cases this
  | _ => intro h; exact h.elim
/-- parts of these are among them, and no more than there are letters -/
theorem nw_dq : ∀ {x : Cond}, cn x → ∀ z ∈ nw x, cn z ∧ ∃ f, lts f ≤ lts x ∧ (∀ q ∈ dq z, q ∈ dq f) ∧ ∀ q ∈ dq f, q.2 = S1 ∨ q.2 ∈ nw x := by
  have self : ∀ {x : Cond}, cn x → ∀ z, (z = x ∨ z ∈ sf x) → cn z ∧ ∃ f, lts f ≤ lts x ∧ (∀ q ∈ dq z, q ∈ dq f) ∧ ∀ q ∈ dq f, q.2 = S1 ∨ q.2 ∈ nw x := by
    intro x h z hz
    have h2 : ∀ q ∈ dq x, q.2 = S1 ∨ q.2 ∈ nw x := fun q hq => (dp_sf h q.2 (dq_dp q hq)).imp id (sf_nw _)
    rcases hz with rfl | g
    · exact ⟨h, _, Nat.le_refl _, fun q hq => hq, h2⟩
    · exact ⟨(sf_cn h z g).1, x, Nat.le_refl _, sf_dq h z g, h2⟩
  have lift : ∀ {a x : Cond}, lts a ≤ lts x → (∀ c ∈ nw a, c ∈ nw x) → ∀ z, (cn z ∧ ∃ f, lts f ≤ lts a ∧ (∀ q ∈ dq z, q ∈ dq f) ∧ ∀ q ∈ dq f, q.2 = S1 ∨ q.2 ∈ nw a) → cn z ∧ ∃ f, lts f ≤ lts x ∧ (∀ q ∈ dq z, q ∈ dq f) ∧ ∀ q ∈ dq f, q.2 = S1 ∨ q.2 ∈ nw x := by
    rintro a x hl hs z ⟨c, f, h1, h2, h3⟩
    exact ⟨c, f, Nat.le_trans h1 hl, h2, fun q hq => (h3 q hq).imp id (hs _)⟩
  intro x
  induction x with
  | or a b iha ihb =>
    intro h z hz
    rcases List.mem_cons.mp hz with rfl | g
    · exact self h _ (Or.inl rfl)
    · rcases List.mem_append.mp g with g | g
      · exact lift (x := .or a b) (show lts a ≤ lts a + lts b by omega) (fun c q => List.mem_cons_of_mem _ (List.mem_append_left _ q)) z (iha h.1 z g)
      · exact lift (x := .or a b) (show lts b ≤ lts a + lts b by omega) (fun c q => List.mem_cons_of_mem _ (List.mem_append_right _ q)) z (ihb h.2.2.2.1 z g)
  | and a b iha ihb =>
    intro h z hz
    rcases List.mem_cons.mp hz with rfl | g
    · exact self h _ (Or.inl rfl)
    · rcases List.mem_append.mp g with g | g
      · rcases List.mem_append.mp g with g | g
        · exact lift (x := .and a b) (show lts a ≤ lts a + lts b by omega) (fun c q => List.mem_cons_of_mem _ (List.mem_append_left _ (List.mem_append_left _ q))) z (iha h.1 z g)
        · exact lift (x := .and a b) (show lts b ≤ lts a + lts b by omega) (fun c q => List.mem_cons_of_mem _ (List.mem_append_left _ (List.mem_append_right _ q))) z (ihb h.2.2.2.2.1 z g)
      · exact self h z (Or.inr (List.mem_append_left _ g))
  | not a iha =>
    intro h z hz
    rcases List.mem_cons.mp hz with rfl | g
    · exact self h _ (Or.inl rfl)
    · rcases List.mem_append.mp g with g | g
      · exact lift (a := a) (x := .not a) (Nat.le_refl _) (fun c q => List.mem_cons_of_mem _ (List.mem_append_left _ q)) z (iha h.1 z g)
      · exact self h z (Or.inr (List.mem_append_left _ g))
  | count k => intro h z hz; rw [List.mem_singleton.mp hz]; exact self h _ (Or.inl rfl)
  | _ => intro h; exact h.elim
/-- how many parts, over all letters -/
def pt3 (z : Cond) : Nat := (pt z 0).length + (pt z 1).length + (pt z 2).length
theorem pt3_le {z f : Cond} (h : ∀ q ∈ dq z, q ∈ dq f) : pt3 z ≤ lts f := by
  have hq : ∀ l, ∀ u ∈ pt z l, (l, u) ∈ dq f := fun l u hu => h _ (dq_pt u hu)
  have := nd_leP (l := (pt z 0).map (fun z => (0, z)) ++ ((pt z 1).map (fun z => (1, z)) ++ (pt z 2).map (fun z => (2, z)))) (m := dq f) ?_ ?_
  · rw [dq_len] at this
    simp only [List.length_append, List.length_map] at this
    unfold pt3
    omega
  · refine List.nodup_append.mpr ⟨nd_pair (pt_nodup _ _), List.nodup_append.mpr ⟨nd_pair (pt_nodup _ _), nd_pair (pt_nodup _ _), ?_⟩, ?_⟩
    · intro a ha b hb e
      obtain ⟨u, -, rfl⟩ := List.mem_map.mp ha
      obtain ⟨v, -, rfl⟩ := List.mem_map.mp hb
      cases e
    · intro a ha b hb e
      obtain ⟨u, -, rfl⟩ := List.mem_map.mp ha
      rcases List.mem_append.mp hb with hb | hb
      · obtain ⟨v, -, rfl⟩ := List.mem_map.mp hb
        cases e
      · obtain ⟨v, -, rfl⟩ := List.mem_map.mp hb
        cases e
  · intro q hq'
    rcases List.mem_append.mp hq' with h | h
    · obtain ⟨u, hu, rfl⟩ := List.mem_map.mp h
      exact hq 0 u hu
    · rcases List.mem_append.mp h with h | h
      · obtain ⟨u, hu, rfl⟩ := List.mem_map.mp h
        exact hq 1 u hu
      · obtain ⟨u, hu, rfl⟩ := List.mem_map.mp h
        exact hq 2 u hu
theorem nw_pt {x z u : Cond} {l : Nat} (cx : cn x) (hz : z ∈ nw x) (hu : u ∈ pt z l) : u = S1 ∨ u ∈ nw x := by
  obtain ⟨-, f, -, h2, h3⟩ := nw_dq cx z hz
  exact h3 _ (h2 _ (dq_pt u hu))
