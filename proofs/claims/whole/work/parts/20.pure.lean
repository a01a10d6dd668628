/-! WHAT A RUN COMES TO, as rewriting: ll_E says that the run ends, with which answer and store. -/
def ll_E (L : Nat) (xs : Nat → Int32) (d y pc : Nat) (ls st : List Value) (σ : ll_S) (r : Option Int32) (σ' : ll_S) : Prop := ∃ n, ll_run (ll_P L xs) ll_mL ll_mK n d y pc ls st σ = some (r, σ')
section PE
variable {P : Nat → Nat → Option ll_O} {mL : Nat → Nat} {mK : Nat → Option Nat}
/-- more fuel, more depth -/
theorem ll_run_mono : ∀ (n n' d d' y pc : Nat) (ls st : List Value) (σ : ll_S) (q : Option Int32 × ll_S), n ≤ n' → d ≤ d' → ll_run P mL mK n d y pc ls st σ = some q → ll_run P mL mK n' d' y pc ls st σ = some q := by
  intro n
  induction n with
  | zero => intro n' d d' y pc ls st σ q _ _ h; rw [ll_run] at h; cases h
  | succ n ih =>
    intro n' d d' y pc ls st σ q hn hd h
    cases n' with
    | zero => omega
    | succ n' =>
      rw [ll_run.eq_def] at h ⊢
      simp only at h ⊢
      cases hP : P y pc with
      | none => rw [hP] at h; cases h
      | some o =>
        rw [hP] at h
        rcases o with f | z | t
        · simp only at h ⊢
          cases hf : f ls st σ with
          | none => rw [hf] at h; cases h
          | some r0 =>
            rw [hf] at h
            simp only at h ⊢
            exact ih n' d d' y _ _ _ _ q (by omega) hd h
        · simp only at h ⊢
          cases d with
          | zero => cases h
          | succ d =>
            cases d' with
            | zero => omega
            | succ d' =>
              simp only at h ⊢
              split at h
              · rename_i hok
                rw [if_pos hok]
                cases hr : ll_run P mL mK n d z.1 0 (ll_ent (mL z.1) (st.take z.2.1).reverse) [] σ with
                | none => rw [hr] at h; cases h
                | some q1 =>
                  rw [hr] at h
                  rw [ih n' d d' z.1 0 _ _ σ q1 (by omega) (by omega) hr]
                  simp only at h ⊢
                  exact ih n' (d + 1) (d' + 1) y _ _ _ _ q (by omega) hd h
              · cases h
        · exact h
end PE
section PF
variable {L : Nat} {xs : Nat → Int32} {d y pc : Nat} {ls st : List Value} {σ : ll_S} {r : Option Int32} {σ' : ll_S}
theorem le_deep {d' : Nat} (h : ll_E L xs d y pc ls st σ r σ') (hd : d ≤ d') : ll_E L xs d' y pc ls st σ r σ' := by
  obtain ⟨n, hn⟩ := h
  exact ⟨n, ll_run_mono n n d d' y pc ls st σ _ (Nat.le_refl _) hd hn⟩
theorem le_det {r2 : Option Int32} {σ2 : ll_S} (h : ll_E L xs d y pc ls st σ r σ') (h2 : ll_E L xs d y pc ls st σ r2 σ2) : r2 = r ∧ σ2 = σ' := by
  obtain ⟨n, hn⟩ := h
  obtain ⟨n2, hn2⟩ := h2
  have h1 := ll_run_mono n (n + n2) d d y pc ls st σ _ (by omega) (Nat.le_refl _) hn
  have h3 := ll_run_mono n2 (n + n2) d d y pc ls st σ _ (by omega) (Nat.le_refl _) hn2
  have := h3.symm.trans h1
  cases this
  exact ⟨rfl, rfl⟩
/-- a step -/
theorem le_step {f : ll_G} (hP : ll_P L xs y pc = some (.inl f)) : ll_E L xs d y pc ls st σ r σ' ↔ ∃ q, f ls st σ = some q ∧ ll_E L xs d y q.1 q.2.1 q.2.2.1 q.2.2.2 r σ' := by
  constructor
  · rintro ⟨n, h⟩
    cases n with
    | zero => rw [ll_run] at h; cases h
    | succ n =>
      rw [ll_run.eq_def] at h
      simp only [hP] at h
      cases hf : f ls st σ with
      | none => rw [hf] at h; cases h
      | some q => rw [hf] at h; exact ⟨q, rfl, n, h⟩
  · rintro ⟨q, hf, n, h⟩
    refine ⟨n + 1, ?_⟩
    rw [ll_run.eq_def]
    simp only [hP, hf]
    exact h
theorem le_to {f : ll_G} {pc1 : Nat} {ls1 st1 : List Value} {σ1 : ll_S} (hP : ll_P L xs y pc = some (.inl f)) (hf : f ls st σ = some (pc1, ls1, st1, σ1)) : ll_E L xs d y pc ls st σ r σ' ↔ ll_E L xs d y pc1 ls1 st1 σ1 r σ' := by
  rw [le_step hP, hf]
  constructor
  · rintro ⟨q, hq, h⟩
    cases hq
    exact h
  · intro h
    exact ⟨_, rfl, h⟩
theorem le_call {z k n : Nat} (hP : ll_P L xs y pc = some (.inr (.inl (z, k, n)))) : ll_E L xs (d + 1) y pc ls st σ r σ' ↔ ll_okc (ll_mK z) (ll_mL z) k st σ = true ∧ ∃ r1 σ1, ll_E L xs d z 0 (ll_ent (ll_mL z) (st.take k).reverse) [] σ r1 σ1 ∧ ll_E L xs (d + 1) y n ls ((r1.map Value.int).toList ++ st.drop k) σ1 r σ' := by
  constructor
  · rintro ⟨m, h⟩
    cases m with
    | zero => rw [ll_run] at h; cases h
    | succ m =>
      rw [ll_run.eq_def] at h
      simp only [hP] at h
      split at h
      · rename_i hok
        refine ⟨hok, ?_⟩
        cases hr : ll_run (ll_P L xs) ll_mL ll_mK m d z 0 (ll_ent (ll_mL z) (st.take k).reverse) [] σ with
        | none => rw [hr] at h; cases h
        | some q => rw [hr] at h; exact ⟨q.1, q.2, ⟨m, hr⟩, m, h⟩
      · cases h
  · rintro ⟨hok, r1, σ1, ⟨m1, h1⟩, m2, h2⟩
    refine ⟨m1 + m2 + 1, ?_⟩
    rw [ll_run.eq_def]
    simp only [hP]
    rw [if_pos hok, ll_run_mono m1 (m1 + m2) d d z 0 _ _ σ _ (by omega) (Nat.le_refl _) h1]
    exact ll_run_mono m2 (m1 + m2) (d + 1) (d + 1) y n _ _ σ1 _ (by omega) (Nat.le_refl _) h2
theorem le_ret {t : Nat} (hP : ll_P L xs y pc = some (.inr (.inr t))) : ll_E L xs d y pc ls st σ r σ' ↔ ll_ret t st σ = some (r, σ') := by
  constructor
  · rintro ⟨n, h⟩
    cases n with
    | zero => rw [ll_run] at h; cases h
    | succ n => rw [ll_run.eq_def] at h; simp only [hP] at h; exact h
  · intro h
    refine ⟨1, ?_⟩
    rw [ll_run.eq_def]
    simp only [hP]
    exact h
end PF
