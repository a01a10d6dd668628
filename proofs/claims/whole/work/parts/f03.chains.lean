/-! CHAINS OF LINES, as the class keeps them -/
def gQ (C : List cmT) (g : Nat) (j : Nat) : Bool := decide ((C.getD j cm0).1 = g)
/-- the first line from k on with goal g -/
def nx (C : List cmT) (g k : Nat) : Option Nat := ff (gQ C g) (C.length - k) k
theorem ff_cong {p p' : Nat → Bool} : ∀ q k, (∀ j, k ≤ j → j < k + q → p j = p' j) → ff p q k = ff p' q k
  | 0, _, _ => rfl
  | q + 1, k, h => by
    rw [ff_s, ff_s, h k (Nat.le_refl _) (by omega), ff_cong q (k + 1) (fun j a b => h j (by omega) (by omega))]
theorem ff_end (p : Nat → Bool) : ∀ q k, ff p (q + 1) k = match ff p q k with
    | some j => some j
    | none => if p (k + q) = true then some (k + q) else none
  | 0, k => rfl
  | q + 1, k => by
    rw [ff_s, ff_s p q k, ff_end p q (k + 1)]
    by_cases h : p k = true
    · rw [if_pos h, if_pos h]
    · rw [if_neg h, if_neg h, show k + 1 + q = k + (q + 1) by omega]
theorem ff_p {p : Nat → Bool} : ∀ {q k j : Nat}, ff p q k = some j → p j = true
  | 0, _, _, h => by cases h
  | q + 1, k, j, h => by
    rw [ff_s] at h
    by_cases hp : p k = true
    · rw [if_pos hp] at h; cases h; exact hp
    · rw [if_neg hp] at h; exact ff_p h
theorem getD_app {C : List cmT} {l : cmT} {j : Nat} (h : j < C.length) : (C ++ [l]).getD j cm0 = C.getD j cm0 := by
  rw [List.getD_eq_getElem?_getD, List.getElem?_append_left h, List.getD_eq_getElem?_getD]
theorem getD_new {C : List cmT} {l : cmT} : (C ++ [l]).getD C.length cm0 = l := by
  rw [List.getD_eq_getElem?_getD, List.getElem?_append_right (Nat.le_refl _), Nat.sub_self]; rfl
theorem nx_app {C : List cmT} {l : cmT} {g k : Nat} (hk : k ≤ C.length) : nx (C ++ [l]) g k = match nx C g k with
    | some j => some j
    | none => if l.1 = g then some C.length else none := by
  unfold nx
  rw [List.length_append, show C.length + [l].length - k = (C.length - k) + 1 by simp only [List.length_cons, List.length_nil]; omega, ff_end, ff_cong (C.length - k) k (p' := gQ C g) (fun j a b => by unfold gQ; rw [getD_app (by omega)])]
  cases ff (gQ C g) (C.length - k) k with
  | some j => rfl
  | none =>
    simp only
    rw [show k + (C.length - k) = C.length by omega]
    unfold gQ
    rw [getD_new]
    by_cases e : l.1 = g
    · rw [if_pos (decide_eq_true e), if_pos e]
    · rw [if_neg (by rw [decide_eq_false e]; decide), if_neg e]
theorem nx_none {C : List cmT} {g k : Nat} (h : nx C g k = none) : ∀ j l, k ≤ j → C[j]? = some l → l.1 ≠ g := fun j l hj hl e => by
  have hjl := (List.getElem?_eq_some_iff.mp hl).1
  have := ff_none h j hj (by omega)
  unfold gQ at this
  rw [getD_some hl] at this
  exact of_decide_eq_false this e
theorem nx_out {C : List cmT} {g k : Nat} (h : C.length ≤ k) : nx C g k = none := by unfold nx; rw [show C.length - k = 0 by omega]; rfl
theorem nx_lt {C : List cmT} {g k j : Nat} (h : nx C g k = some j) : k ≤ j ∧ j < C.length ∧ (C.getD j cm0).1 = g := by
  have h1 := ff_in h
  have h2 := ff_p h
  exact ⟨h1.1, by omega, of_decide_eq_true h2⟩
/-- m is the last line with goal g -/
def lstP (C : List cmT) (g m : Nat) : Prop := m < C.length ∧ (C.getD m cm0).1 = g ∧ nx C g (m + 1) = none
/-- first fit through the chain -/
theorem ff_chain {C : List cmT} {g : Nat} {S : Int32} : ∀ q k, q + k = C.length → ff (fit C g S) q k = match ff (gQ C g) q k with
    | none => none
    | some j => if fit C g S j = true then some j else ff (fit C g S) (C.length - (j + 1)) (j + 1)
  | 0, k, _ => rfl
  | q + 1, k, h => by
    rw [ff_s, ff_s]
    by_cases hg : gQ C g k = true
    · rw [if_pos hg]
      simp only
      rw [show C.length - (k + 1) = q by omega]
    · have hf : ¬ fit C g S k = true := fun e => hg (decide_eq_true (of_decide_eq_true e).1)
      rw [if_neg hg, if_neg hf]
      exact ff_chain q (k + 1) (by omega)
theorem lst_ex {C : List cmT} {g : Nat} : ∀ q k j, q + k = C.length → nx C g k = some j → ∃ m, lstP C g m
  | 0, k, j, h, e => by rw [nx_out (by omega)] at e; cases e
  | q + 1, k, j, h, e => by
    obtain ⟨a, b, c⟩ := nx_lt e
    cases hn : nx C g (k + 1) with
    | some j' => exact lst_ex q (k + 1) j' (by omega) hn
    | none =>
      by_cases ej : j = k
      · subst ej; exact ⟨j, b, c, hn⟩
      · exfalso
        have hj := List.getElem?_eq_getElem b
        exact nx_none hn j _ (by omega) hj (by rw [← getD_some (d := cm0) hj]; exact c)
/-- premises laid one after the other -/
def ps (E : List dnT) (k : Nat) : Nat := psum (fun i => (dg E i).2.length) k
theorem ps_s (E : List dnT) (k : Nat) : ps E (k + 1) = ps E k + (dg E k).2.length := rfl
theorem ps_le {D : List dnT} {e : dnT} : ∀ k, k ≤ D.length → ps (D ++ [e]) k = ps D k
  | 0, _ => rfl
  | k + 1, h => by rw [ps_s, ps_s, ps_le k (by omega), dg_app, if_neg (by omega)]
theorem ps_ge {D : List dnT} : ∀ k, D.length ≤ k → ps D k = ps D D.length
  | 0, h => by rw [show D.length = 0 by omega]
  | k + 1, h => by
    by_cases e : D.length = k + 1
    · rw [e]
    · rw [ps_s, ps_ge k (by omega), dg_out (by omega)]; rfl
theorem ps_app {D : List dnT} {e : dnT} {k : Nat} (h : D.length < k) : ps (D ++ [e]) k = ps D D.length + e.2.length := by
  have h1 : (D ++ [e]).length = D.length + 1 := by rw [List.length_append]; rfl
  rw [ps_ge k (by omega), h1, ps_s, ps_le _ (Nat.le_refl _), dg_app, if_pos rfl]
theorem ps_bd {n0 : Nat} {C : List cmT} {D : List dnT} (h : cI n0 C D) (k : Nat) : ps D k ≤ k * 30 := psum_le k (fun i _ => h.2.2.2 i)
theorem ps_9000 {n0 : Nat} {C : List cmT} {D : List dnT} (h : cI n0 C D) (k : Nat) : ps D k ≤ 9000 := by
  have h1 := ps_bd h (min k D.length)
  have hl := h.1
  have hd := h.2.1
  by_cases e : D.length ≤ k
  · rw [ps_ge k e]
    rw [show min k D.length = D.length by omega] at h1
    have := Nat.mul_le_mul (show D.length ≤ 300 by omega) (Nat.le_refl 30)
    omega
  · rw [show min k D.length = k by omega] at h1
    have := Nat.mul_le_mul (show k ≤ 300 by omega) (Nat.le_refl 30)
    omega
/-- the class's cells: lines at l, the search at 47 -/
def sc (s : sT) (l n0 : Nat) (C : List cmT) (E : List dnT) : Prop := (s.1 l 8 = nI C.length ∧ s.1 l 9 = nI (ps E C.length) ∧ s.1 l 10 = nI (lgC C)) ∧
  (∀ k c, C[k]? = some c → s.1 (l + 1) k = nI c.1 ∧ s.1 (l + 2) k = c.2.1 ∧ s.1 48 k = c.2.2.1 ∧ s.1 49 k = c.2.2.2.1 ∧ s.1 50 k = nI c.2.2.2.2 ∧ s.1 53 k = oI (nx C c.1 (k + 1))) ∧
  (∀ k, k < C.length → s.1 (l + 3) k = (dg E k).1 ∧ s.1 (l + 5) k = nI (dg E k).2.length ∧ (0 < (dg E k).2.length → s.1 (l + 4) k = nI (ps E k)) ∧ ∀ j p, (dg E k).2[j]? = some p → s.1 (l + 6) (ps E k + j) = nI p) ∧
  (∀ g, g < n0 → s.1 51 g = oI (nx C g 0)) ∧ ∀ g m, g < n0 → lstP C g m → s.1 52 g = nI m
/-- what the search leaves as it is -/
def fC (l : Nat) (s s' : sT) : Prop := s'.2 = s.2 ∧ ∀ z, ¬ (48 ≤ z ∧ z ≤ 53) → ¬ (l ≤ z ∧ z < l + 9) → s'.1 z = s.1 z
theorem fC_refl (l : Nat) (s : sT) : fC l s s := ⟨rfl, fun _ _ _ => rfl⟩
theorem fC_trans {l : Nat} {s s1 s2 : sT} (h1 : fC l s s1) (h2 : fC l s1 s2) : fC l s s2 := ⟨h2.1.trans h1.1, fun z a b => (h2.2 z a b).trans (h1.2 z a b)⟩
theorem fC_put {l : Nat} {s s1 : sT} {c k : Nat} {v : Int32} (h : fC l s s1) (hc : (48 ≤ c ∧ c ≤ 53) ∨ (l ≤ c ∧ c < l + 9)) : fC l s (pV s1 c k v) := ⟨h.1, fun z a b => (funext fun j => by rw [pV_1, if_neg (by omega)]).trans (h.2 z a b)⟩
/-- the search's own references -/
def sK (L : Nat) (xs : Nat → Int32) (s : sT) (l c0 c1 : Nat) (X0 X1 : Cond) : Prop := rP s.2 ∧ (l = 37 ∨ l = 84) ∧ lnK (yY L xs) s.2 l ∧ (s.2 47 7 = some c0 ∧ s.2 47 8 = some c1 ∧ s.2 47 9 = some l) ∧ sdX L xs s c0 X0 ∧ sdX L xs s c1 X1 ∧ (c0 = 19 ∨ c0 = 28 ∨ c0 = 65 ∨ c0 = 74) ∧ (c1 = 19 ∨ c1 = 28 ∨ c1 = 65 ∨ c1 = 74) ∧ ∀ t y, (tms X0)[t]? = some y → s.1 54 t = if y ∈ tms X1 then nI ((tms X1).idxOf y) else -1
theorem sK_fC {L : Nat} {xs : Nat → Int32} {s s' : sT} {l c0 c1 : Nat} {X0 X1 : Cond} (h : sK L xs s l c0 c1 X0 X1) (f : fC l s s') : sK L xs s' l c0 c1 X0 X1 := by
  obtain ⟨h1, h2, h3, h4, h5, h6, h7, h8, h9⟩ := h
  refine ⟨by rw [f.1]; exact h1, h2, by rw [f.1]; exact h3, by rw [f.1]; exact h4, ⟨by rw [f.1]; exact h5.1, sdC_off h5.2.1 (fun i a b => f.2 i (by omega) (by omega)), h5.2.2⟩, ⟨by rw [f.1]; exact h6.1, sdC_off h6.2.1 (fun i a b => f.2 i (by omega) (by omega)), h6.2.2⟩, h7, h8, fun t y hy => ?_⟩
  rw [f.2 54 (by omega) (by omega)]; exact h9 t y hy
