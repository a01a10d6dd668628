/-! A STORE THAT GROWS: the cells that are not made yet have their shape ahead, and zeroes. -/
def gX (n m : Nat) : sX := (n, m, shX.2.2)
def gY (L : Nat) (xs : Nat → Int32) (n m : Nat) : sY := (L, xs, gX n m)
theorem gY_end (L : Nat) (xs : Nat → Int32) : gY L xs 219 251654 = yY L xs := rfl
def zZ (n : Nat) (s : sT) : Prop := ∀ i, n ≤ i → s.1 i = (fun _ => 0) ∧ s.2 i = (fun _ => none)
theorem zZ_mono {n n1 : Nat} {s : sT} (h : zZ n s) (hn : n ≤ n1) : zZ n1 s := fun i hi => h i (Nat.le_trans hn hi)
theorem zZ_pV {n i k : Nat} {x : Int32} {s : sT} (h : zZ n s) (hi : i < n) : zZ n (pV s i k x) := fun j hj => ⟨by rw [← (h j hj).1]; simp only [pV, ll_up, if_neg (show ¬ j = i by omega)], (h j hj).2⟩
theorem zZ_pR {n i k : Nat} {o : Option Nat} {s : sT} (h : zZ n s) (hi : i < n) : zZ n (pR s i k o) := fun j hj => ⟨(h j hj).1, by rw [← (h j hj).2]; simp only [pR, ll_up, if_neg (show ¬ j = i by omega)]⟩
/-- from here the run ends so that K holds of its answer, the cells made, the slots made and the store -/
def tH (L : Nat) (xs : Nat → Int32) (n m d y pc : Nat) (ls st : List Value) (s : sT) (K : Option Int32 → Nat → Nat → sT → Prop) : Prop := zZ n s → ∃ r n' m' s', ll_E L xs d y pc ls st (sS (gX n m) s) r (sS (gX n' m') s') ∧ zZ n' s' ∧ K r n' m' s'
section GR
variable {L : Nat} {xs : Nat → Int32} {n m d y pc p1 : Nat} {ls st : List Value} {s : sT} {K : Option Int32 → Nat → Nat → sT → Prop}
theorem h_to {f : ll_G} {ls1 st1 : List Value} {s1 : sT} (hP : ll_P L xs y pc = some (.inl f)) (hf : f ls st (sS (gX n m) s) = some (p1, ls1, st1, sS (gX n m) s1)) (hz : zZ n s → zZ n s1) (h : tH L xs n m d y p1 ls1 st1 s1 K) : tH L xs n m d y pc ls st s K := by
  intro z
  obtain ⟨r, n', m', s', h1, h2⟩ := h (hz z)
  exact ⟨r, n', m', s', (le_to hP hf).mpr h1, h2⟩
theorem h_push {v : Value} (hP : ll_P L xs y pc = some (.inl (lo_push p1 v))) (h : tH L xs n m d y p1 ls (v :: st) s K) : tH L xs n m d y pc ls st s K := h_to hP rfl id h
theorem h_iload {i : Nat} {x : Int32} (hP : ll_P L xs y pc = some (.inl (lo_iload p1 i))) (hl : ls[i]? = some (.int x)) (h : tH L xs n m d y p1 ls (.int x :: st) s K) : tH L xs n m d y pc ls st s K := h_to hP (by simp only [lo_iload, hl]) id h
theorem h_aload {i a : Nat} (hP : ll_P L xs y pc = some (.inl (lo_aload p1 i))) (hl : ls[i]? = some (.ref a)) (h : tH L xs n m d y p1 ls (.ref a :: st) s K) : tH L xs n m d y pc ls st s K := h_to hP (by simp only [lo_aload, hl]) id h
theorem h_istore {i : Nat} {x : Int32} {ls1 : List Value} (hP : ll_P L xs y pc = some (.inl (lo_istore p1 i))) (hi : i < ls.length) (hno : ll_no2 ls i = true) (hl : ls.set i (.int x) = ls1) (h : tH L xs n m d y p1 ls1 st s K) : tH L xs n m d y pc ls (.int x :: st) s K := h_to hP (by simp only [lo_istore, hi, hno, hl, and_self, if_true]) id h
theorem h_astore {i a : Nat} {ls1 : List Value} (hP : ll_P L xs y pc = some (.inl (lo_astore p1 i))) (hi : i < ls.length) (hno : ll_no2 ls i = true) (hl : ls.set i (.ref a) = ls1) (h : tH L xs n m d y p1 ls1 st s K) : tH L xs n m d y pc ls (.ref a :: st) s K := h_to hP (by simp only [lo_astore, hi, hno, hl, and_self, if_true]) id h
theorem h_iinc {i : Nat} {k x x1 : Int32} {ls1 : List Value} (hP : ll_P L xs y pc = some (.inl (lo_iinc p1 i k))) (hi : ls[i]? = some (.int x)) (hno : ll_no2 ls i = true) (hx : x + k = x1) (hl : ls.set i (.int x1) = ls1) (h : tH L xs n m d y p1 ls1 st s K) : tH L xs n m d y pc ls st s K := h_to hP (by subst hx; simp only [lo_iinc, hi, hno, hl, if_true]) id h
theorem h_bin {g : Int32 → Int32 → Int32} {x z w : Int32} (hP : ll_P L xs y pc = some (.inl (lo_bin p1 g))) (hw : g x z = w) (h : tH L xs n m d y p1 ls (.int w :: st) s K) : tH L xs n m d y pc ls (.int z :: .int x :: st) s K := h_to hP (by subst hw; rfl) id h
theorem h_mm {g : Int32 → Int32 → Int32} {x z w : Int32} (hP : ll_P L xs y pc = some (.inl (lo_mm p1 g))) (hs : st.length ≤ 10) (hw : g x z = w) (h : tH L xs n m d y p1 ls (.int w :: st) s K) : tH L xs n m d y pc ls (.int z :: .int x :: st) s K := h_to hP (by subst hw; simp only [lo_mm, if_pos hs]) id h
theorem h_dup {x : Nat} (hP : ll_P L xs y pc = some (.inl (lo_dup p1))) (h : tH L xs n m d y p1 ls (.ref x :: .ref x :: st) s K) : tH L xs n m d y pc ls (.ref x :: st) s K := h_to hP rfl id h
theorem h_goto (hP : ll_P L xs y pc = some (.inl (lo_goto p1))) (h : tH L xs n m d y p1 ls st s K) : tH L xs n m d y pc ls st s K := h_to hP rfl id h
theorem h_init {a : Nat} (hP : ll_P L xs y pc = some (.inl (lo_init p1))) (hs : st.length ≤ 10) (h : tH L xs n m d y p1 ls st s K) : tH L xs n m d y pc ls (.ref a :: st) s K := h_to hP (by simp only [lo_init, if_pos hs]) id h
theorem h_cmpT {t : Nat} {g : Int32 → Int32 → Bool} {x z : Int32} (hP : ll_P L xs y pc = some (.inl (lo_cmp t p1 g))) (hg : g x z = true) (h : tH L xs n m d y t ls st s K) : tH L xs n m d y pc ls (.int z :: .int x :: st) s K := h_to hP (by simp only [lo_cmp, if_pos hg]) id h
theorem h_cmpF {t : Nat} {g : Int32 → Int32 → Bool} {x z : Int32} (hP : ll_P L xs y pc = some (.inl (lo_cmp t p1 g))) (hg : g x z = false) (h : tH L xs n m d y p1 ls st s K) : tH L xs n m d y pc ls (.int z :: .int x :: st) s K := h_to hP (by simp only [lo_cmp, hg, Bool.false_eq_true, if_false]) id h
theorem gX_at {i : Nat} {q : Nat × Nat × Nat} (h : shX.2.2 i = q) : (sS (gX n m) s).2.2 i = sC q (s.1 i) (s.2 i) := sS_at (X := gX n m) h
theorem h_getr {i ci k q a : Nat} (hP : ll_P L xs y pc = some (.inl (lo_getf p1 ci k))) (hI : ll_isI ci k = false) (hs : shX.2.2 i = (3, ci, q)) (ha : s.2 i k = some a) (h : tH L xs n m d y p1 ls (.ref a :: st) s K) : tH L xs n m d y pc ls (.ref i :: st) s K := h_to hP (by simp only [lo_getf, gX_at hs, sC_o, if_true, sFld, hI, ha, ll_rf]; rfl) id h
theorem h_puti {i ci k q : Nat} {x : Int32} (hP : ll_P L xs y pc = some (.inl (lo_putf p1 ci k 0))) (hI : ll_isI ci k = true) (hs : shX.2.2 i = (3, ci, q)) (hi : i < n) (h : tH L xs n m d y p1 ls st (pV s i k x) K) : tH L xs n m d y pc ls (.int x :: .ref i :: st) s K := by
  refine h_to hP ?_ (fun z => zZ_pV z hi) h
  simp only [lo_putf, gX_at hs, sC_o, ll_fit, beq_self_eq_true, Bool.true_or, and_self, if_true]
  rw [sS_set (X := gX n m) (s1 := pV s i k x)]
  · rw [show (gX n m).2.2 i = _ from hs, sC_o]
    congr 3
    funext j
    simp only [sFld, ll_up, pV, if_true]
    by_cases hj : j = k
    · subst hj; simp [hI]
    · simp [hj]
  · intro j hj
    exact ⟨by simp only [pV, ll_up, if_neg hj], rfl⟩
theorem h_putr {i ci k q a : Nat} (hP : ll_P L xs y pc = some (.inl (lo_putf p1 ci k 2))) (hI : ll_isI ci k = false) (hs : shX.2.2 i = (3, ci, q)) (hi : i < n) (h : tH L xs n m d y p1 ls st (pR s i k (some a)) K) : tH L xs n m d y pc ls (.ref a :: .ref i :: st) s K := by
  refine h_to hP ?_ (fun z => zZ_pR z hi) h
  simp only [lo_putf, gX_at hs, sC_o, ll_fit, beq_self_eq_true, and_self, if_true]
  rw [sS_set (X := gX n m) (s1 := pR s i k (some a))]
  · rw [show (gX n m).2.2 i = _ from hs, sC_o]
    congr 3
    funext j
    simp only [sFld, ll_up, pR, if_true]
    by_cases hj : j = k
    · subst hj; simp [hI, ll_rf]
    · simp [hj]
  · intro j hj
    exact ⟨rfl, by simp only [pR, ll_up, if_neg hj]⟩
theorem h_ast {i q k : Nat} {j x : Int32} (hP : ll_P L xs y pc = some (.inl (lo_ast p1 0))) (hs : shX.2.2 i = (1, 0, q)) (hk : j.toNatClampNeg = k) (hj : ¬ (j < 0 ∨ q ≤ j.toNatClampNeg)) (hi : i < n) (h : tH L xs n m d y p1 ls st (pV s i k x) K) : tH L xs n m d y pc ls (.int x :: .int j :: .ref i :: st) s K := by
  subst hk
  refine h_to hP ?_ (fun z => zZ_pV z hi) h
  simp only [lo_ast, gX_at hs, sC_i, hj, not_false_eq_true, and_self, if_true]
  rw [sS_set (X := gX n m) (s1 := pV s i j.toNatClampNeg x)]
  · rw [show (gX n m).2.2 i = _ from hs, sC_i]
    simp only [pV, ll_up, if_true]
    rfl
  · intro j' hj'
    exact ⟨by simp only [pV, ll_up, if_neg hj'], rfl⟩
theorem h_aald {i t q k a : Nat} {j : Int32} (hP : ll_P L xs y pc = some (.inl (lo_aald p1))) (hs : shX.2.2 i = (2, t, q)) (hk : j.toNatClampNeg = k) (hj : ¬ (j < 0 ∨ q ≤ j.toNatClampNeg)) (ha : s.2 i k = some a) (h : tH L xs n m d y p1 ls (.ref a :: st) s K) : tH L xs n m d y pc ls (.int j :: .ref i :: st) s K := by
  subst hk
  exact h_to hP (by simp only [lo_aald, gX_at hs, sC_q, hj, not_false_eq_true, if_true, ha, ll_rf]) id h
theorem h_aast {i t q q2 k a : Nat} {j : Int32} (hP : ll_P L xs y pc = some (.inl (lo_aast p1))) (hs : shX.2.2 i = (2, t, q)) (hv : shX.2.2 a = (3, t, q2)) (hk : j.toNatClampNeg = k) (hj : ¬ (j < 0 ∨ q ≤ j.toNatClampNeg)) (hi : i < n) (h : tH L xs n m d y p1 ls st (pR s i k (some a)) K) : tH L xs n m d y pc ls (.ref a :: .int j :: .ref i :: st) s K := by
  subst hk
  refine h_to hP ?_ (fun z => zZ_pR z hi) h
  simp only [lo_aast, gX_at hs, sC_q, gX_at hv, sC_o, hj, not_false_eq_true, and_self, if_true]
  rw [sS_set (X := gX n m) (s1 := pR s i j.toNatClampNeg (some a))]
  · rw [show (gX n m).2.2 i = _ from hs, sC_q]
    simp only [pR, ll_up, if_true]
  · intro j' hj'
    exact ⟨rfl, by simp only [pR, ll_up, if_neg hj']⟩
/-- a cell is made -/
theorem sS_add {k n1 m1 : Nat} {c : ll_C} (hn : n1 = n + 1) (hm : m1 = m + k) (hc : c = sC (shX.2.2 n) (s.1 n) (s.2 n)) : ll_add (sS (gX n m) s) k c = sS (gX n1 m1) s := by
  subst hn hm
  simp only [ll_add, sS, gX, Prod.mk.injEq, true_and]
  funext j
  simp only [ll_up]
  by_cases hj : j = n
  · subst hj
    rw [if_pos rfl, hc]
  · rw [if_neg hj]
theorem h_more {f : ll_G} {n1 m1 : Nat} {ls1 st1 : List Value} (hP : ll_P L xs y pc = some (.inl f)) (hf : zZ n s → f ls st (sS (gX n m) s) = some (p1, ls1, st1, sS (gX n1 m1) s)) (hn : n1 = n + 1) (h : tH L xs n1 m1 d y p1 ls1 st1 s K) : tH L xs n m d y pc ls st s K := by
  intro z
  obtain ⟨r, n', m', s', h1, h2⟩ := h (zZ_mono z (by omega))
  exact ⟨r, n', m', s', (le_to hP (hf z)).mpr h1, h2⟩
theorem h_newa {t k n1 m1 : Nat} {x : Int32} (hP : ll_P L xs y pc = some (.inl (lo_newa p1 t))) (hs : shX.2.2 n = (1, t, k)) (hk : x.toNatClampNeg = k) (h0 : ¬ (x < 0 ∨ 100000000 < x.toNatClampNeg)) (hn : n1 = n + 1) (hm : m1 = m + k) (h : tH L xs n1 m1 d y p1 ls (.ref n :: st) s K) : tH L xs n m d y pc ls (.int x :: st) s K := by
  subst hk
  refine h_more hP (fun z => ?_) hn h
  simp only [lo_newa, if_neg h0]
  rw [sS_add hn hm (by rw [hs, sC_i, (z n (Nat.le_refl _)).1])]
  rfl
theorem h_anew {t k n1 m1 : Nat} {x : Int32} (hP : ll_P L xs y pc = some (.inl (lo_anew p1 t))) (hs : shX.2.2 n = (2, t, k)) (hk : x.toNatClampNeg = k) (h0 : ¬ (x < 0 ∨ 100000000 < x.toNatClampNeg)) (hn : n1 = n + 1) (hm : m1 = m + k) (h : tH L xs n1 m1 d y p1 ls (.ref n :: st) s K) : tH L xs n m d y pc ls (.int x :: st) s K := by
  subst hk
  refine h_more hP (fun z => ?_) hn h
  simp only [lo_anew, if_neg h0]
  rw [sS_add hn hm (by rw [hs, sC_q, (z n (Nat.le_refl _)).2])]
  rfl
theorem h_new {ci N q n1 m1 : Nat} {fs : List Value} (hP : ll_P L xs y pc = some (.inl (lo_new p1 ci N fs))) (hs : shX.2.2 n = (3, ci, q)) (hf : (fun k => fs.getD k .null) = sFld ci (fun _ => 0) (fun _ => none)) (hn : n1 = n + 1) (hm : m1 = m + N) (h : tH L xs n1 m1 d y p1 ls (.ref n :: st) s K) : tH L xs n m d y pc ls st s K := by
  refine h_more hP (fun z => ?_) hn h
  simp only [lo_new]
  rw [sS_add hn hm (by rw [hs, sC_o, (z n (Nat.le_refl _)).1, (z n (Nat.le_refl _)).2, hf])]
  rfl
theorem h_ret0 (hP : ll_P L xs y pc = some (.inr (.inr 0))) (hk : K none n m s) : tH L xs n m d y pc ls [] s K := fun z => ⟨none, n, m, s, (le_ret hP).mpr rfl, z, hk⟩
/-- a call that answers nothing -/
theorem h_call {z k ci i nL q : Nat} {as rest st1 ent : List Value} (hP : ll_P L xs y pc = some (.inr (.inl (z, k, p1)))) (hK : ll_mK z = some ci) (hL : ll_mL z = nL) (hst : st1 = (Value.ref i :: as).reverse ++ rest) (hk : as.length + 1 = k) (hn : (ll_sl (Value.ref i :: as)).length ≤ nL) (he : ll_ent nL (Value.ref i :: as) = ent) (hr : (ll_sl rest).length ≤ 8) (ho : shX.2.2 i = (3, ci, q))
    (h : tH L xs n m d z 0 ent [] s (fun r n1 m1 s1 => r = none ∧ tH L xs n1 m1 (d + 1) y p1 ls rest s1 K)) : tH L xs n m (d + 1) y pc ls st1 s K := by
  have h1 : (st1.take k).reverse = Value.ref i :: as := by rw [hst, ← hk, ← List.length_cons (a := Value.ref i), ← List.length_reverse, List.take_left, List.reverse_reverse]
  have h2 : st1.drop k = rest := by rw [hst, ← hk, ← List.length_cons (a := Value.ref i), ← List.length_reverse, List.drop_left]
  intro z0
  obtain ⟨r, n1, m1, s1, e1, z1, hr0, h3⟩ := h z0
  subst hr0
  obtain ⟨r', n2, m2, s2, e2, z2, hk2⟩ := h3 z1
  refine ⟨r', n2, m2, s2, (le_call hP).mpr ⟨?_, none, sS (gX n1 m1) s1, ?_, ?_⟩, z2, hk2⟩
  · rw [hK, hL]
    exact t2_okc (X := gX n m) hst (by simpa using hk) hr hn ⟨as, rfl⟩ (by show (shX.2.2 i).1 = 3 ∧ (shX.2.2 i).2.1 = ci; rw [ho]; exact ⟨rfl, rfl⟩)
  · rw [h1, hL, he]; exact e1
  · rw [h2]; exact e2
/-- a run within what is made -/
theorem h_ofT {K1 : Option Int32 → sT → Prop} (h : tT (gY L xs n m) d y pc ls st s K1) (hk : ∀ r s', zZ n s → K1 r s' → zZ n s' ∧ K r n m s') : tH L xs n m d y pc ls st s K := by
  intro z
  obtain ⟨r, s', h1, h2⟩ := h
  exact ⟨r, n, m, s', h1, hk r s' z h2⟩
end GR
