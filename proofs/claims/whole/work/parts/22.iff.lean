/-! rows for rewriting: what a step asks stands beside what comes next -/
section T2
variable {Y : sY} {d y pc n : Nat} {ls st : List Value} {s : sT} {K : Option Int32 → sT → Prop}
/-- where a step can't be done, no run ends -/
theorem tt_not {f : ll_G} (hP : ll_P Y.1 Y.2.1 y pc = some (.inl f)) (hf : f ls st (sS Y.2.2 s) = none) : ¬ tT Y d y pc ls st s K := by
  rintro ⟨r, s', h, -⟩
  rw [le_step hP, hf] at h
  obtain ⟨q, hq, -⟩ := h
  cases hq
theorem tt_iff {f : ll_G} {p : Prop} {pc1 : Nat} {ls1 st1 : List Value} {s1 : sT} (hP : ll_P Y.1 Y.2.1 y pc = some (.inl f)) (h1 : p → f ls st (sS Y.2.2 s) = some (pc1, ls1, st1, sS Y.2.2 s1)) (h2 : ¬ p → f ls st (sS Y.2.2 s) = none) : tT Y d y pc ls st s K ↔ p ∧ tT Y d y pc1 ls1 st1 s1 K := by
  by_cases hp : p
  · rw [tt_to hP (h1 hp)]
    exact ⟨fun h => ⟨hp, h⟩, fun h => h.2⟩
  · exact ⟨fun h => absurd h (tt_not hP (h2 hp)), fun h => absurd h.1 hp⟩
theorem sC_cases (q : Nat × Nat × Nat) (v : Nat → Int32) (r : Nat → Option Nat) : (q.1 = 1 ∧ sC q v r = .inl (q.2.1, q.2.2, v)) ∨ (q.1 = 2 ∧ sC q v r = .inr (.inl (q.2.1, q.2.2, r))) ∨ (q.1 ≠ 1 ∧ q.1 ≠ 2 ∧ sC q v r = .inr (.inr (q.2.1, sFld q.2.1 v r))) := by
  unfold sC
  by_cases h1 : q.1 = 1
  · simp [h1]
  · by_cases h2 : q.1 = 2
    · simp [h2]
    · simp [h1, h2]
/-- the cell is an object of class ci -/
def isO (Y : sY) (i ci : Nat) : Prop := (Y.2.2.2.2 i).1 = 3 ∧ (Y.2.2.2.2 i).2.1 = ci
/-- the cell is an array of numbers (t: 0 ints, 1 booleans), of length m -/
def isA (Y : sY) (i t m : Nat) : Prop := Y.2.2.2.2 i = (1, t, m)
/-- the cell is an array of references -/
def isQ (Y : sY) (i t m : Nat) : Prop := Y.2.2.2.2 i = (2, t, m)
theorem isO.eq {Y : sY} {i ci : Nat} (h : isO Y i ci) : ∃ m, Y.2.2.2.2 i = (3, ci, m) := ⟨(Y.2.2.2.2 i).2.2, by rw [← h.1, ← h.2]⟩
theorem t2_geti {i ci k : Nat} (hP : ll_P Y.1 Y.2.1 y pc = some (.inl (lo_getf n ci k))) (hI : ll_isI ci k = true) (h : isO Y i ci) : tT Y d y pc ls (.ref i :: st) s K ↔ tT Y d y n ls (.int (s.1 i k) :: st) s K := by
  obtain ⟨m, hm⟩ := h.eq
  exact tt_geti hP hI hm
theorem t2_getr {i ci k a : Nat} (hP : ll_P Y.1 Y.2.1 y pc = some (.inl (lo_getf n ci k))) (hI : ll_isI ci k = false) (h : isO Y i ci) (ha : s.2 i k = some a) : tT Y d y pc ls (.ref i :: st) s K ↔ tT Y d y n ls (.ref a :: st) s K := by
  obtain ⟨m, hm⟩ := h.eq
  exact tt_getr hP hI hm ha
theorem t2_puti {i ci k : Nat} {x : Int32} (hP : ll_P Y.1 Y.2.1 y pc = some (.inl (lo_putf n ci k 0))) (hI : ll_isI ci k = true) (h : isO Y i ci) : tT Y d y pc ls (.int x :: .ref i :: st) s K ↔ tT Y d y n ls st (pV s i k x) K := by
  obtain ⟨m, hm⟩ := h.eq
  exact tt_puti hP hI hm
theorem t2_putz {i ci k : Nat} {x : Int32} (hP : ll_P Y.1 Y.2.1 y pc = some (.inl (lo_putf n ci k 1))) (hI : ll_isI ci k = true) (h : isO Y i ci) (hx : x = 0 ∨ x = 1) : tT Y d y pc ls (.int x :: .ref i :: st) s K ↔ tT Y d y n ls st (pV s i k x) K := by
  obtain ⟨m, hm⟩ := h.eq
  exact tt_putz hP hx hI hm
theorem t2_putr {i ci k a : Nat} (hP : ll_P Y.1 Y.2.1 y pc = some (.inl (lo_putf n ci k 2))) (hI : ll_isI ci k = false) (h : isO Y i ci) : tT Y d y pc ls (.ref a :: .ref i :: st) s K ↔ tT Y d y n ls st (pR s i k (some a)) K := by
  obtain ⟨m, hm⟩ := h.eq
  exact tt_putr hP hI hm
/-- a place within a row -/
def inR (j : Int32) (m : Nat) : Prop := ¬ (j < 0 ∨ m ≤ j.toNatClampNeg)
theorem inR.of {j : Int32} {m k : Nat} (h : j = Int32.ofNat k) (hk : k < m) (hm : m < 2 ^ 31) : inR j m := by
  rw [h]
  exact nI_in hk hm
/-- the receiver, and what lies below, of a call -/
theorem t2_okc {i ci nL k : Nat} {as rest : List Value} {X : sX} {s : sT} {st : List Value} (hst : st = as.reverse ++ rest) (hk : as.length = k) (hr : (ll_sl rest).length ≤ 8) (hn : (ll_sl as).length ≤ nL) (h : ∃ as', as = .ref i :: as') (ho : (X.2.2 i).1 = 3 ∧ (X.2.2 i).2.1 = ci) : ll_okc (some ci) nL k st (sS X s) = true := by
  obtain ⟨as', rfl⟩ := h
  have h1 : (st.take k).reverse = .ref i :: as' := by rw [hst, ← hk, ← List.length_reverse, List.take_left, List.reverse_reverse]
  have h2 : st.drop k = rest := by rw [hst, ← hk, ← List.length_reverse, List.drop_left]
  have hc : sC (X.2.2 i) (s.1 i) (s.2 i) = .inr (.inr (ci, sFld ci (s.1 i) (s.2 i))) := by
    obtain ⟨m, hm⟩ : ∃ m, X.2.2 i = (3, ci, m) := ⟨(X.2.2 i).2.2, by rw [← ho.1, ← ho.2]⟩
    rw [hm]; rfl
  have h3 : (sS X s).2.2 i = .inr (.inr (ci, sFld ci (s.1 i) (s.2 i))) := hc
  simp only [ll_okc, h1, h2, ll_rc, h3, beq_self_eq_true, Bool.and_eq_true, decide_eq_true_eq, and_true]
  refine ⟨?_, hr, hn⟩
  rw [hst, List.length_append, List.length_reverse, hk]
  omega
theorem t2_oks {nL k : Nat} {as rest : List Value} {X : sX} {s : sT} {st : List Value} (hst : st = as.reverse ++ rest) (hk : as.length = k) (hr : (ll_sl rest).length ≤ 8) (hn : (ll_sl as).length ≤ nL) : ll_okc none nL k st (sS X s) = true := by
  have h1 : (st.take k).reverse = as := by rw [hst, ← hk, ← List.length_reverse, List.take_left, List.reverse_reverse]
  have h2 : st.drop k = rest := by rw [hst, ← hk, ← List.length_reverse, List.drop_left]
  simp only [ll_okc, h1, h2, ll_rc, Bool.and_eq_true, decide_eq_true_eq, and_true]
  refine ⟨?_, hr, hn⟩
  rw [hst, List.length_append, List.length_reverse, hk]
  omega
theorem t2_callv {z k ci i nL : Nat} {as rest st1 : List Value} {ent : List Value} (hP : ll_P Y.1 Y.2.1 y pc = some (.inr (.inl (z, k, n)))) (hK : ll_mK z = some ci) (hL : ll_mL z = nL) (hst : st1 = (Value.ref i :: as).reverse ++ rest) (hk : as.length + 1 = k) (hn : (ll_sl (Value.ref i :: as)).length ≤ nL) (he : ll_ent nL (Value.ref i :: as) = ent) (hr : (ll_sl rest).length ≤ 8) (ho : isO Y i ci)
    (h : tT Y d z 0 ent [] s (fun r s1 => tT Y (d + 1) y n ls ((r.map Value.int).toList ++ rest) s1 K)) : tT Y (d + 1) y pc ls st1 s K := by
  have h1 : (st1.take k).reverse = Value.ref i :: as := by rw [hst, ← hk, ← List.length_cons (a := Value.ref i), ← List.length_reverse, List.take_left, List.reverse_reverse]
  have h2 : st1.drop k = rest := by rw [hst, ← hk, ← List.length_cons (a := Value.ref i), ← List.length_reverse, List.drop_left]
  refine tt_call hP (by rw [hK, hL]; exact t2_okc hst (by simpa using hk) hr hn ⟨as, rfl⟩ ho) ?_
  rw [h1, h2, hL, he]
  exact h
theorem t2_calls {z k nL : Nat} {as rest st1 : List Value} {ent : List Value} (hP : ll_P Y.1 Y.2.1 y pc = some (.inr (.inl (z, k, n)))) (hK : ll_mK z = none) (hL : ll_mL z = nL) (hst : st1 = as.reverse ++ rest) (hk : as.length = k) (hn : (ll_sl as).length ≤ nL) (he : ll_ent nL as = ent) (hr : (ll_sl rest).length ≤ 8)
    (h : tT Y d z 0 ent [] s (fun r s1 => tT Y (d + 1) y n ls ((r.map Value.int).toList ++ rest) s1 K)) : tT Y (d + 1) y pc ls st1 s K := by
  have h1 : (st1.take k).reverse = as := by rw [hst, ← hk, ← List.length_reverse, List.take_left, List.reverse_reverse]
  have h2 : st1.drop k = rest := by rw [hst, ← hk, ← List.length_reverse, List.drop_left]
  refine tt_call hP (by rw [hK, hL]; exact t2_oks hst hk hr hn) ?_
  rw [h1, h2, hL, he]
  exact h
end T2
