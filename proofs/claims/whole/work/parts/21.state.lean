/-! THE STORE OF FIXED SHAPE: numbers by cell and place, references by cell and place. A shape: (1, tag, length) an array of ints, (2, class, length) one of references, (3, class, _) an object. -/
abbrev sT : Type := (Nat → Nat → Int32) × (Nat → Nat → Option Nat)
abbrev sX : Type := Nat × Nat × (Nat → Nat × Nat × Nat)
/-- script length, script, shape -/
abbrev sY : Type := Nat × (Nat → Int32) × sX
/-- is a field a number? -/
def ll_isI (ci k : Nat) : Bool := match vwCl[ci]? with
  | some q => decide (k < q.2.2) && ((q.2.1 k).2.2.1 == "I" || (q.2.1 k).2.2.1 == "Z")
  | none => false
def sFld (ci : Nat) (v : Nat → Int32) (r : Nat → Option Nat) (k : Nat) : Value := if ll_isI ci k = true then .int (v k) else ll_rf (r k)
def sC (q : Nat × Nat × Nat) (v : Nat → Int32) (r : Nat → Option Nat) : ll_C := if q.1 = 1 then .inl (q.2.1, q.2.2, v) else if q.1 = 2 then .inr (.inl (q.2.1, q.2.2, r)) else .inr (.inr (q.2.1, sFld q.2.1 v r))
def sS (X : sX) (s : sT) : ll_S := (X.1, X.2.1, fun i => sC (X.2.2 i) (s.1 i) (s.2 i))
def pV (s : sT) (i k : Nat) (x : Int32) : sT := (ll_up s.1 i (ll_up (s.1 i) k x), s.2)
def pR (s : sT) (i k : Nat) (o : Option Nat) : sT := (s.1, ll_up s.2 i (ll_up (s.2 i) k o))
/-- a whole row of numbers -/
def pA (s : sT) (i : Nat) (f : Nat → Int32) : sT := (ll_up s.1 i f, s.2)
theorem pV_1 (s : sT) (i k : Nat) (x : Int32) (i' k' : Nat) : (pV s i k x).1 i' k' = if i' = i ∧ k' = k then x else s.1 i' k' := by
  simp only [pV, ll_up]
  by_cases h : i' = i
  · subst h
    by_cases h2 : k' = k <;> simp [h2, ll_up]
  · simp [h]
theorem pV_2 (s : sT) (i k : Nat) (x : Int32) : (pV s i k x).2 = s.2 := rfl
theorem pR_1 (s : sT) (i k : Nat) (o : Option Nat) : (pR s i k o).1 = s.1 := rfl
theorem pR_2 (s : sT) (i k : Nat) (o : Option Nat) (i' k' : Nat) : (pR s i k o).2 i' k' = if i' = i ∧ k' = k then o else s.2 i' k' := by
  simp only [pR, ll_up]
  by_cases h : i' = i
  · subst h
    by_cases h2 : k' = k <;> simp [h2, ll_up]
  · simp [h]
theorem pA_1 (s : sT) (i : Nat) (f : Nat → Int32) (i' k' : Nat) : (pA s i f).1 i' k' = if i' = i then f k' else s.1 i' k' := by
  simp only [pA, ll_up]
  by_cases h : i' = i <;> simp [h]
theorem pA_2 (s : sT) (i : Nat) (f : Nat → Int32) : (pA s i f).2 = s.2 := rfl
theorem sS_set {X : sX} {s s1 : sT} {i : Nat} {c : ll_C} (h1 : c = sC (X.2.2 i) (s1.1 i) (s1.2 i)) (h2 : ∀ j, j ≠ i → s1.1 j = s.1 j ∧ s1.2 j = s.2 j) : ll_set (sS X s) i c = sS X s1 := by
  simp only [ll_set, sS, Prod.mk.injEq, true_and]
  funext j
  simp only [ll_up]
  by_cases hj : j = i
  · subst hj
    rw [if_pos rfl, h1]
  · rw [if_neg hj, (h2 j hj).1, (h2 j hj).2]
theorem sC_i {t n : Nat} {v : Nat → Int32} {r : Nat → Option Nat} : sC (1, t, n) v r = .inl (t, n, v) := rfl
theorem sC_q {t n : Nat} {v : Nat → Int32} {r : Nat → Option Nat} : sC (2, t, n) v r = .inr (.inl (t, n, r)) := rfl
theorem sC_o {t n : Nat} {v : Nat → Int32} {r : Nat → Option Nat} : sC (3, t, n) v r = .inr (.inr (t, sFld t v r)) := rfl
theorem sS_at {X : sX} {s : sT} {i : Nat} {q : Nat × Nat × Nat} (h : X.2.2 i = q) : (sS X s).2.2 i = sC q (s.1 i) (s.2 i) := by show sC (X.2.2 i) _ _ = _; rw [h]
/-- FROM HERE THE RUN ENDS so that K holds of its answer and of the store -/
def tT (Y : sY) (d y pc : Nat) (ls st : List Value) (s : sT) (K : Option Int32 → sT → Prop) : Prop := ∃ r s', ll_E Y.1 Y.2.1 d y pc ls st (sS Y.2.2 s) r (sS Y.2.2 s') ∧ K r s'
section TT
variable {Y : sY} {d y pc n : Nat} {ls st : List Value} {s : sT} {K : Option Int32 → sT → Prop}
theorem tt_to {f : ll_G} {pc1 : Nat} {ls1 st1 : List Value} {s1 : sT} (hP : ll_P Y.1 Y.2.1 y pc = some (.inl f)) (hf : f ls st (sS Y.2.2 s) = some (pc1, ls1, st1, sS Y.2.2 s1)) : tT Y d y pc ls st s K ↔ tT Y d y pc1 ls1 st1 s1 K := by
  unfold tT
  constructor
  · rintro ⟨r, s', h, hk⟩
    exact ⟨r, s', (le_to hP hf).mp h, hk⟩
  · rintro ⟨r, s', h, hk⟩
    exact ⟨r, s', (le_to hP hf).mpr h, hk⟩
theorem tt_mono {d' : Nat} {K' : Option Int32 → sT → Prop} (h : tT Y d y pc ls st s K) (hd : d ≤ d') (hk : ∀ r s', K r s' → K' r s') : tT Y d' y pc ls st s K' := by
  obtain ⟨r, s', h1, h2⟩ := h
  exact ⟨r, s', le_deep h1 hd, hk r s' h2⟩
theorem tt_push {v : Value} (hP : ll_P Y.1 Y.2.1 y pc = some (.inl (lo_push n v))) : tT Y d y pc ls st s K ↔ tT Y d y n ls (v :: st) s K := tt_to hP rfl
theorem tt_iload {i : Nat} {x : Int32} (hP : ll_P Y.1 Y.2.1 y pc = some (.inl (lo_iload n i))) (hl : ls[i]? = some (.int x)) : tT Y d y pc ls st s K ↔ tT Y d y n ls (.int x :: st) s K := tt_to hP (by simp only [lo_iload, hl])
theorem tt_lload {i : Nat} {x : Int64} (hP : ll_P Y.1 Y.2.1 y pc = some (.inl (lo_lload n i))) (hl : ls[i]? = some (.long x)) : tT Y d y pc ls st s K ↔ tT Y d y n ls (.long x :: st) s K := tt_to hP (by simp only [lo_lload, hl])
theorem tt_aload {i a : Nat} (hP : ll_P Y.1 Y.2.1 y pc = some (.inl (lo_aload n i))) (hl : ls[i]? = some (.ref a)) : tT Y d y pc ls st s K ↔ tT Y d y n ls (.ref a :: st) s K := tt_to hP (by simp only [lo_aload, hl])
theorem tt_istore {i : Nat} {x : Int32} {ls1 : List Value} (hP : ll_P Y.1 Y.2.1 y pc = some (.inl (lo_istore n i))) (hi : i < ls.length) (hno : ll_no2 ls i = true) (hl : ls.set i (.int x) = ls1) : tT Y d y pc ls (.int x :: st) s K ↔ tT Y d y n ls1 st s K := tt_to hP (by simp only [lo_istore, hi, hno, hl, and_self, if_true])
theorem tt_astore {i a : Nat} {ls1 : List Value} (hP : ll_P Y.1 Y.2.1 y pc = some (.inl (lo_astore n i))) (hi : i < ls.length) (hno : ll_no2 ls i = true) (hl : ls.set i (.ref a) = ls1) : tT Y d y pc ls (.ref a :: st) s K ↔ tT Y d y n ls1 st s K := tt_to hP (by simp only [lo_astore, hi, hno, hl, and_self, if_true])
theorem tt_iinc {i : Nat} {k x : Int32} {ls1 : List Value} (hP : ll_P Y.1 Y.2.1 y pc = some (.inl (lo_iinc n i k))) (hi : ls[i]? = some (.int x)) (hno : ll_no2 ls i = true) (hl : ls.set i (.int (x + k)) = ls1) : tT Y d y pc ls st s K ↔ tT Y d y n ls1 st s K := tt_to hP (by simp only [lo_iinc, hi, hno, hl, if_true])
theorem tt_bin {g : Int32 → Int32 → Int32} {x z : Int32} (hP : ll_P Y.1 Y.2.1 y pc = some (.inl (lo_bin n g))) : tT Y d y pc ls (.int z :: .int x :: st) s K ↔ tT Y d y n ls (.int (g x z) :: st) s K := tt_to hP rfl
theorem tt_div {g : Int32 → Int32 → Int32} {x z : Int32} (hP : ll_P Y.1 Y.2.1 y pc = some (.inl (lo_div n g))) (hz : ¬ z = 0) : tT Y d y pc ls (.int z :: .int x :: st) s K ↔ tT Y d y n ls (.int (g x z) :: st) s K := tt_to hP (by simp only [lo_div, if_neg hz])
theorem tt_mm {g : Int32 → Int32 → Int32} {x z : Int32} (hP : ll_P Y.1 Y.2.1 y pc = some (.inl (lo_mm n g))) (hs : st.length ≤ 10) : tT Y d y pc ls (.int z :: .int x :: st) s K ↔ tT Y d y n ls (.int (g x z) :: st) s K := tt_to hP (by simp only [lo_mm, if_pos hs])
theorem tt_lbin {g : Int64 → Int64 → Int64} {x z : Int64} (hP : ll_P Y.1 Y.2.1 y pc = some (.inl (lo_lbin n g))) : tT Y d y pc ls (.long z :: .long x :: st) s K ↔ tT Y d y n ls (.long (g x z) :: st) s K := tt_to hP rfl
theorem tt_lsh {g : Int64 → Int32 → Int64} {x : Int64} {z : Int32} (hP : ll_P Y.1 Y.2.1 y pc = some (.inl (lo_lsh n g))) : tT Y d y pc ls (.int z :: .long x :: st) s K ↔ tT Y d y n ls (.long (g x z) :: st) s K := tt_to hP rfl
theorem tt_i2l {x : Int32} (hP : ll_P Y.1 Y.2.1 y pc = some (.inl (lo_i2l n))) : tT Y d y pc ls (.int x :: st) s K ↔ tT Y d y n ls (.long x.toInt64 :: st) s K := tt_to hP rfl
theorem tt_l2i {x : Int64} (hP : ll_P Y.1 Y.2.1 y pc = some (.inl (lo_l2i n))) : tT Y d y pc ls (.long x :: st) s K ↔ tT Y d y n ls (.int x.toInt32 :: st) s K := tt_to hP rfl
theorem tt_lcmp {x z : Int64} (hP : ll_P Y.1 Y.2.1 y pc = some (.inl (lo_lcmp n))) : tT Y d y pc ls (.long z :: .long x :: st) s K ↔ tT Y d y n ls (.int (lg_cmp x z) :: st) s K := tt_to hP rfl
theorem tt_dupi {x : Int32} (hP : ll_P Y.1 Y.2.1 y pc = some (.inl (lo_dup n))) : tT Y d y pc ls (.int x :: st) s K ↔ tT Y d y n ls (.int x :: .int x :: st) s K := tt_to hP rfl
theorem tt_dupr {x : Nat} (hP : ll_P Y.1 Y.2.1 y pc = some (.inl (lo_dup n))) : tT Y d y pc ls (.ref x :: st) s K ↔ tT Y d y n ls (.ref x :: .ref x :: st) s K := tt_to hP rfl
theorem tt_dup2 {x : Int32} {a : Nat} (hP : ll_P Y.1 Y.2.1 y pc = some (.inl (lo_dup2 n))) : tT Y d y pc ls (.int x :: .ref a :: st) s K ↔ tT Y d y n ls (.int x :: .ref a :: .int x :: .ref a :: st) s K := tt_to hP rfl
theorem tt_popi {x : Int32} (hP : ll_P Y.1 Y.2.1 y pc = some (.inl (lo_pop n))) : tT Y d y pc ls (.int x :: st) s K ↔ tT Y d y n ls st s K := tt_to hP rfl
theorem tt_goto {t : Nat} (hP : ll_P Y.1 Y.2.1 y pc = some (.inl (lo_goto t))) : tT Y d y pc ls st s K ↔ tT Y d y t ls st s K := tt_to hP rfl
theorem tt_if {t : Nat} {g : Int32 → Bool} {x : Int32} (hP : ll_P Y.1 Y.2.1 y pc = some (.inl (lo_if t n g))) : tT Y d y pc ls (.int x :: st) s K ↔ if g x = true then tT Y d y t ls st s K else tT Y d y n ls st s K := by
  by_cases h : g x = true
  · rw [if_pos h]; exact tt_to hP (by simp only [lo_if, if_pos h])
  · rw [if_neg h]; exact tt_to hP (by simp only [lo_if, if_neg h])
theorem tt_cmp {t : Nat} {g : Int32 → Int32 → Bool} {x z : Int32} (hP : ll_P Y.1 Y.2.1 y pc = some (.inl (lo_cmp t n g))) : tT Y d y pc ls (.int z :: .int x :: st) s K ↔ if g x z = true then tT Y d y t ls st s K else tT Y d y n ls st s K := by
  by_cases h : g x z = true
  · rw [if_pos h]; exact tt_to hP (by simp only [lo_cmp, if_pos h])
  · rw [if_neg h]; exact tt_to hP (by simp only [lo_cmp, if_neg h])
theorem tt_tab {lo : Int} {ts : List Nat} {e0 : Nat} {x : Int32} (hP : ll_P Y.1 Y.2.1 y pc = some (.inl (lo_tab lo ts e0))) : tT Y d y pc ls (.int x :: st) s K ↔ tT Y d y (if x.toInt < lo then e0 else ts.getD (x.toInt - lo).toNat e0) ls st s K := by
  by_cases h : x.toInt < lo
  · rw [if_pos h]; exact tt_to hP (by simp only [lo_tab, if_pos h])
  · rw [if_neg h]; exact tt_to hP (by simp only [lo_tab, if_neg h])
theorem tt_geti {i ci k m : Nat} (hP : ll_P Y.1 Y.2.1 y pc = some (.inl (lo_getf n ci k))) (hI : ll_isI ci k = true) (hs : Y.2.2.2.2 i = (3, ci, m)) : tT Y d y pc ls (.ref i :: st) s K ↔ tT Y d y n ls (.int (s.1 i k) :: st) s K := tt_to hP (by simp only [lo_getf, sS_at hs, sC_o, if_true, sFld, hI])
theorem tt_getr {i ci k m a : Nat} (hP : ll_P Y.1 Y.2.1 y pc = some (.inl (lo_getf n ci k))) (hI : ll_isI ci k = false) (hs : Y.2.2.2.2 i = (3, ci, m)) (ha : s.2 i k = some a) : tT Y d y pc ls (.ref i :: st) s K ↔ tT Y d y n ls (.ref a :: st) s K := tt_to hP (by simp only [lo_getf, sS_at hs, sC_o, if_true, sFld, hI, ha, ll_rf]; rfl)
theorem tt_puti {i ci k m : Nat} {x : Int32} (hP : ll_P Y.1 Y.2.1 y pc = some (.inl (lo_putf n ci k 0))) (hI : ll_isI ci k = true) (hs : Y.2.2.2.2 i = (3, ci, m)) : tT Y d y pc ls (.int x :: .ref i :: st) s K ↔ tT Y d y n ls st (pV s i k x) K := by
  refine tt_to hP ?_
  simp only [lo_putf, sS_at hs, sC_o, ll_fit, beq_self_eq_true, Bool.true_or, and_self, if_true]
  rw [sS_set (s1 := pV s i k x)]
  · rw [hs, sC_o]
    congr 3
    funext j
    simp only [sFld, ll_up, pV, if_true]
    by_cases hj : j = k
    · subst hj; simp [hI]
    · simp [hj]
  · intro j hj
    exact ⟨by simp only [pV, ll_up, if_neg hj], rfl⟩
theorem tt_putz {i ci k m : Nat} {x : Int32} (hP : ll_P Y.1 Y.2.1 y pc = some (.inl (lo_putf n ci k 1))) (hx : x = 0 ∨ x = 1) (hI : ll_isI ci k = true) (hs : Y.2.2.2.2 i = (3, ci, m)) : tT Y d y pc ls (.int x :: .ref i :: st) s K ↔ tT Y d y n ls st (pV s i k x) K := by
  refine tt_to hP ?_
  have hf : ll_fit 1 (.int x) = true := by rcases hx with rfl | rfl <;> rfl
  simp only [lo_putf, sS_at hs, sC_o, hf, and_self, if_true]
  rw [sS_set (s1 := pV s i k x)]
  · rw [hs, sC_o]
    congr 3
    funext j
    simp only [sFld, ll_up, pV, if_true]
    by_cases hj : j = k
    · subst hj; simp [hI]
    · simp [hj]
  · intro j hj
    exact ⟨by simp only [pV, ll_up, if_neg hj], rfl⟩
theorem tt_putr {i ci k m a : Nat} (hP : ll_P Y.1 Y.2.1 y pc = some (.inl (lo_putf n ci k 2))) (hI : ll_isI ci k = false) (hs : Y.2.2.2.2 i = (3, ci, m)) : tT Y d y pc ls (.ref a :: .ref i :: st) s K ↔ tT Y d y n ls st (pR s i k (some a)) K := by
  refine tt_to hP ?_
  simp only [lo_putf, sS_at hs, sC_o, ll_fit, beq_self_eq_true, and_self, if_true]
  rw [sS_set (s1 := pR s i k (some a))]
  · rw [hs, sC_o]
    congr 3
    funext j
    simp only [sFld, ll_up, pR, if_true]
    by_cases hj : j = k
    · subst hj; simp [hI, ll_rf]
    · simp [hj]
  · intro j hj
    exact ⟨rfl, by simp only [pR, ll_up, if_neg hj]⟩
theorem tt_ald {i t m : Nat} {j : Int32} (hP : ll_P Y.1 Y.2.1 y pc = some (.inl (lo_ald n t))) (hs : Y.2.2.2.2 i = (1, t, m)) (hj : ¬ (j < 0 ∨ m ≤ j.toNatClampNeg)) : tT Y d y pc ls (.int j :: .ref i :: st) s K ↔ tT Y d y n ls (.int (s.1 i j.toNatClampNeg) :: st) s K := tt_to hP (by simp only [lo_ald, sS_at hs, sC_i, hj, not_false_eq_true, and_self, if_true])
theorem tt_ast {i m : Nat} {j x : Int32} (hP : ll_P Y.1 Y.2.1 y pc = some (.inl (lo_ast n 0))) (hs : Y.2.2.2.2 i = (1, 0, m)) (hj : ¬ (j < 0 ∨ m ≤ j.toNatClampNeg)) : tT Y d y pc ls (.int x :: .int j :: .ref i :: st) s K ↔ tT Y d y n ls st (pV s i j.toNatClampNeg x) K := by
  refine tt_to hP ?_
  simp only [lo_ast, sS_at hs, sC_i, hj, not_false_eq_true, and_self, if_true]
  rw [sS_set (s1 := pV s i j.toNatClampNeg x)]
  · rw [hs, sC_i]
    simp only [pV, ll_up, if_true]
    rfl
  · intro j' hj'
    exact ⟨by simp only [pV, ll_up, if_neg hj'], rfl⟩
theorem tt_zst {i m : Nat} {j x : Int32} (hP : ll_P Y.1 Y.2.1 y pc = some (.inl (lo_ast n 1))) (hx : x = 0 ∨ x = 1) (hs : Y.2.2.2.2 i = (1, 1, m)) (hj : ¬ (j < 0 ∨ m ≤ j.toNatClampNeg)) : tT Y d y pc ls (.int x :: .int j :: .ref i :: st) s K ↔ tT Y d y n ls st (pV s i j.toNatClampNeg x) K := by
  refine tt_to hP ?_
  have e1 : vp_nar (ll_ty 1) x = x := by rcases hx with rfl | rfl <;> rfl
  simp only [lo_ast, sS_at hs, sC_i, hj, not_false_eq_true, and_self, if_true, e1]
  rw [sS_set (s1 := pV s i j.toNatClampNeg x)]
  · rw [hs, sC_i]
    simp only [pV, ll_up, if_true]
  · intro j' hj'
    exact ⟨by simp only [pV, ll_up, if_neg hj'], rfl⟩
theorem tt_aald {i t m a : Nat} {j : Int32} (hP : ll_P Y.1 Y.2.1 y pc = some (.inl (lo_aald n))) (hs : Y.2.2.2.2 i = (2, t, m)) (hj : ¬ (j < 0 ∨ m ≤ j.toNatClampNeg)) (ha : s.2 i j.toNatClampNeg = some a) : tT Y d y pc ls (.int j :: .ref i :: st) s K ↔ tT Y d y n ls (.ref a :: st) s K := tt_to hP (by simp only [lo_aald, sS_at hs, sC_q, hj, not_false_eq_true, if_true, ha, ll_rf])
theorem tt_aast {i t m a m2 : Nat} {j : Int32} (hP : ll_P Y.1 Y.2.1 y pc = some (.inl (lo_aast n))) (hs : Y.2.2.2.2 i = (2, t, m)) (hv : Y.2.2.2.2 a = (3, t, m2)) (hj : ¬ (j < 0 ∨ m ≤ j.toNatClampNeg)) : tT Y d y pc ls (.ref a :: .int j :: .ref i :: st) s K ↔ tT Y d y n ls st (pR s i j.toNatClampNeg (some a)) K := by
  refine tt_to hP ?_
  simp only [lo_aast, sS_at hs, sC_q, sS_at hv, sC_o, hj, not_false_eq_true, and_self, if_true]
  rw [sS_set (s1 := pR s i j.toNatClampNeg (some a))]
  · rw [hs, sC_q]
    simp only [pR, ll_up, if_true]
  · intro j' hj'
    exact ⟨rfl, by simp only [pR, ll_up, if_neg hj']⟩
theorem tt_alen {i t m : Nat} (hP : ll_P Y.1 Y.2.1 y pc = some (.inl (lo_alen n))) (hs : Y.2.2.2.2 i = (1, t, m)) : tT Y d y pc ls (.ref i :: st) s K ↔ tT Y d y n ls (.int (Int32.ofNat m) :: st) s K := tt_to hP (by simp only [lo_alen, sS_at hs, sC_i])
theorem tt_copy {a0 a1 n0 n1 : Nat} {k dp sp : Int32} (hP : ll_P Y.1 Y.2.1 y pc = some (.inl (lo_copy n))) (hs0 : Y.2.2.2.2 a0 = (1, 0, n0)) (hs1 : Y.2.2.2.2 a1 = (1, 0, n1)) (hst : st.length ≤ 4) (h1 : ¬ sp < 0) (h2 : ¬ dp < 0) (h3 : ¬ k < 0) (h4 : sp.toNatClampNeg + k.toNatClampNeg ≤ n0) (h5 : dp.toNatClampNeg + k.toNatClampNeg ≤ n1) :
    tT Y d y pc ls (.int k :: .int dp :: .ref a1 :: .int sp :: .ref a0 :: st) s K ↔ tT Y d y n ls st (pA s a1 (va_cpy (s.1 a0) (s.1 a1) sp.toNatClampNeg dp.toNatClampNeg k.toNatClampNeg)) K := by
  refine tt_to hP ?_
  simp only [lo_copy, sS_at hs0, sS_at hs1, sC_i]
  rw [if_pos ⟨trivial, trivial, hst, h1, h2, h3, h4, h5⟩]
  rw [sS_set (s1 := pA s a1 (va_cpy (s.1 a0) (s.1 a1) sp.toNatClampNeg dp.toNatClampNeg k.toNatClampNeg))]
  · rw [hs1, sC_i]
    simp only [pA, ll_up, if_true]
  · intro j hj
    exact ⟨by simp only [pA, ll_up, if_neg hj], rfl⟩
theorem tt_ret0 (hP : ll_P Y.1 Y.2.1 y pc = some (.inr (.inr 0))) (hk : K none s) : tT Y d y pc ls [] s K := ⟨none, s, (le_ret hP).mpr rfl, hk⟩
theorem tt_ret1 {x : Int32} (hP : ll_P Y.1 Y.2.1 y pc = some (.inr (.inr 1))) (hk : K (some x) s) : tT Y d y pc ls [.int x] s K := ⟨some x, s, (le_ret hP).mpr rfl, hk⟩
theorem tt_ret2 {x : Int32} (hP : ll_P Y.1 Y.2.1 y pc = some (.inr (.inr 2))) (hx : x = 0 ∨ x = 1) (hk : K (some x) s) : tT Y d y pc ls [.int x] s K := ⟨some x, s, (le_ret hP).mpr (by simp only [ll_ret, hx, and_self, or_true, if_true]), hk⟩
/-- a call: the callee's run, then the rest -/
theorem tt_call {z k : Nat} (hP : ll_P Y.1 Y.2.1 y pc = some (.inr (.inl (z, k, n)))) (hok : ll_okc (ll_mK z) (ll_mL z) k st (sS Y.2.2 s) = true) (h : tT Y d z 0 (ll_ent (ll_mL z) (st.take k).reverse) [] s (fun r s1 => tT Y (d + 1) y n ls ((r.map Value.int).toList ++ st.drop k) s1 K)) : tT Y (d + 1) y pc ls st s K := by
  obtain ⟨r1, s1, h1, r, s', h2, hk⟩ := h
  exact ⟨r, s', (le_call hP).mpr ⟨hok, r1, _, h1, h2⟩, hk⟩
end TT
