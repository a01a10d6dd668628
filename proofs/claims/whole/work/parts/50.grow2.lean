theorem zZ_pA {n i : Nat} {f : Nat → Int32} {s : sT} (h : zZ n s) (hi : i < n) : zZ n (pA s i f) := fun j hj => ⟨by rw [← (h j hj).1]; simp only [pA, ll_up, if_neg (show ¬ j = i by omega)], (h j hj).2⟩
theorem isI_out {ci k : Nat} {q : vw_C} (h : vwCl[ci]? = some q) (hk : q.2.2 ≤ k) : ll_isI ci k = false := by
  unfold ll_isI
  rw [h]
  show (decide (k < q.2.2) && ((q.2.1 k).2.2.1 == "I" || (q.2.1 k).2.2.1 == "Z")) = false
  rw [decide_eq_false (by omega)]
  rfl
section GR2
variable {L : Nat} {xs : Nat → Int32} {n m d y pc p1 : Nat} {ls st : List Value} {s : sT} {K : Option Int32 → Nat → Nat → sT → Prop}
theorem h_geti {i ci k q : Nat} {x : Int32} (hP : ll_P L xs y pc = some (.inl (lo_getf p1 ci k))) (hI : ll_isI ci k = true) (hs : shX.2.2 i = (3, ci, q)) (ha : s.1 i k = x) (h : tH L xs n m d y p1 ls (.int x :: st) s K) : tH L xs n m d y pc ls (.ref i :: st) s K := h_to hP (by simp only [lo_getf, gX_at hs, sC_o, if_true, sFld, hI, ha]) id h
theorem h_ald {i q k : Nat} {j x : Int32} (hP : ll_P L xs y pc = some (.inl (lo_ald p1 0))) (hs : shX.2.2 i = (1, 0, q)) (hk : j.toNatClampNeg = k) (hj : ¬ (j < 0 ∨ q ≤ j.toNatClampNeg)) (ha : s.1 i k = x) (h : tH L xs n m d y p1 ls (.int x :: st) s K) : tH L xs n m d y pc ls (.int j :: .ref i :: st) s K := by
  subst hk ha
  exact h_to hP (by simp only [lo_ald, gX_at hs, sC_i, hj, not_false_eq_true, and_self, if_true]) id h
theorem h_popi {x : Int32} (hP : ll_P L xs y pc = some (.inl (lo_pop p1))) (h : tH L xs n m d y p1 ls st s K) : tH L xs n m d y pc ls (.int x :: st) s K := h_to hP rfl id h
theorem h_dupi {x : Int32} (hP : ll_P L xs y pc = some (.inl (lo_dup p1))) (h : tH L xs n m d y p1 ls (.int x :: .int x :: st) s K) : tH L xs n m d y pc ls (.int x :: st) s K := h_to hP rfl id h
theorem h_ifT {t : Nat} {g : Int32 → Bool} {x : Int32} (hP : ll_P L xs y pc = some (.inl (lo_if t p1 g))) (hg : g x = true) (h : tH L xs n m d y t ls st s K) : tH L xs n m d y pc ls (.int x :: st) s K := h_to hP (by simp only [lo_if, if_pos hg]) id h
theorem h_ifF {t : Nat} {g : Int32 → Bool} {x : Int32} (hP : ll_P L xs y pc = some (.inl (lo_if t p1 g))) (hg : g x = false) (h : tH L xs n m d y p1 ls st s K) : tH L xs n m d y pc ls (.int x :: st) s K := h_to hP (by simp only [lo_if, hg, Bool.false_eq_true, if_false]) id h
theorem h_tab {lo : Int} {ts : List Nat} {e0 t : Nat} {x : Int32} (hP : ll_P L xs y pc = some (.inl (lo_tab lo ts e0))) (ht : (if x.toInt < lo then e0 else ts.getD (x.toInt - lo).toNat e0) = t) (h : tH L xs n m d y t ls st s K) : tH L xs n m d y pc ls (.int x :: st) s K := by
  subst ht
  by_cases c : x.toInt < lo
  · rw [if_pos c] at h; exact h_to hP (by simp only [lo_tab, if_pos c]) id h
  · rw [if_neg c] at h; exact h_to hP (by simp only [lo_tab, if_neg c]) id h
theorem h_alen {i t q : Nat} {x : Int32} (hP : ll_P L xs y pc = some (.inl (lo_alen p1))) (hs : shX.2.2 i = (1, t, q)) (hx : Int32.ofNat q = x) (h : tH L xs n m d y p1 ls (.int x :: st) s K) : tH L xs n m d y pc ls (.ref i :: st) s K := by
  subst hx
  exact h_to hP (by simp only [lo_alen, gX_at hs, sC_i]) id h
theorem h_copy {a0 a1 n0 n1 e0 e1 e2 : Nat} {k dp sp : Int32} (hP : ll_P L xs y pc = some (.inl (lo_copy p1))) (hs0 : shX.2.2 a0 = (1, 0, n0)) (hs1 : shX.2.2 a1 = (1, 0, n1)) (hst : st.length ≤ 4) (hc : ¬ sp < 0 ∧ ¬ dp < 0 ∧ ¬ k < 0 ∧ sp.toNatClampNeg + k.toNatClampNeg ≤ n0 ∧ dp.toNatClampNeg + k.toNatClampNeg ≤ n1) (h0 : sp.toNatClampNeg = e0) (h1 : dp.toNatClampNeg = e1) (h2 : k.toNatClampNeg = e2) (hi : a1 < n) (h : tH L xs n m d y p1 ls st (pA s a1 (va_cpy (s.1 a0) (s.1 a1) e0 e1 e2)) K) : tH L xs n m d y pc ls (.int k :: .int dp :: .ref a1 :: .int sp :: .ref a0 :: st) s K := by
  subst h0 h1 h2
  refine h_to hP ?_ (fun z => zZ_pA z hi) h
  simp only [lo_copy, gX_at hs0, gX_at hs1, sC_i]
  rw [if_pos ⟨trivial, trivial, hst, hc⟩]
  rw [sS_set (X := gX n m) (s1 := pA s a1 (va_cpy (s.1 a0) (s.1 a1) sp.toNatClampNeg dp.toNatClampNeg k.toNatClampNeg))]
  · rw [show (gX n m).2.2 a1 = _ from hs1, sC_i]
    simp only [pA, ll_up, if_true]
  · intro j hj
    exact ⟨by simp only [pA, ll_up, if_neg hj], rfl⟩
theorem h_ret1 {x : Int32} (hP : ll_P L xs y pc = some (.inr (.inr 1))) (hk : K (some x) n m s) : tH L xs n m d y pc ls [.int x] s K := fun z => ⟨some x, n, m, s, (le_ret hP).mpr rfl, z, hk⟩
theorem h_ret2 {x : Int32} (hP : ll_P L xs y pc = some (.inr (.inr 2))) (hx : x = 0 ∨ x = 1) (hk : K (some x) n m s) : tH L xs n m d y pc ls [.int x] s K := fun z => ⟨some x, n, m, s, (le_ret hP).mpr (by simp only [ll_ret, hx, and_self, or_true, if_true]), z, hk⟩
/-- a call that answers x -/
theorem h_callr {z k ci i nL q : Nat} {x : Int32} {as rest st1 ent : List Value} (hP : ll_P L xs y pc = some (.inr (.inl (z, k, p1)))) (hK : ll_mK z = some ci) (hL : ll_mL z = nL) (hst : st1 = (Value.ref i :: as).reverse ++ rest) (hk : as.length + 1 = k) (hn : (ll_sl (Value.ref i :: as)).length ≤ nL) (he : ll_ent nL (Value.ref i :: as) = ent) (hr : (ll_sl rest).length ≤ 8) (ho : shX.2.2 i = (3, ci, q))
    (h : tH L xs n m d z 0 ent [] s (fun r n1 m1 s1 => r = some x ∧ tH L xs n1 m1 (d + 1) y p1 ls (.int x :: rest) s1 K)) : tH L xs n m (d + 1) y pc ls st1 s K := by
  have h1 : (st1.take k).reverse = Value.ref i :: as := by rw [hst, ← hk, ← List.length_cons (a := Value.ref i), ← List.length_reverse, List.take_left, List.reverse_reverse]
  have h2 : st1.drop k = rest := by rw [hst, ← hk, ← List.length_cons (a := Value.ref i), ← List.length_reverse, List.drop_left]
  intro z0
  obtain ⟨r, n1, m1, s1, e1, z1, hr0, h3⟩ := h z0
  subst hr0
  obtain ⟨r', n2, m2, s2, e2, z2, hk2⟩ := h3 z1
  refine ⟨r', n2, m2, s2, (le_call hP).mpr ⟨?_, some x, sS (gX n1 m1) s1, ?_, ?_⟩, z2, hk2⟩
  · rw [hK, hL]
    exact t2_okc (X := gX n m) hst (by simpa using hk) hr hn ⟨as, rfl⟩ (by show (shX.2.2 i).1 = 3 ∧ (shX.2.2 i).2.1 = ci; rw [ho]; exact ⟨rfl, rfl⟩)
  · rw [h1, hL, he]; exact e1
  · rw [h2]; exact e2
end GR2
theorem fl_0 : (fun k => ([.null, .null, .null, .int 0, .int 0, .int 0, .int 0] : List Value).getD k .null) = sFld 0 (fun _ => 0) (fun _ => none) := by
  funext k
  match k with
  | 0 => rw [sFld, isI_0_0]; rfl
  | 1 => rw [sFld, isI_0_1]; rfl
  | 2 => rw [sFld, isI_0_2]; rfl
  | 3 => rw [sFld, isI_0_3]; rfl
  | 4 => rw [sFld, isI_0_4]; rfl
  | 5 => rw [sFld, isI_0_5]; rfl
  | 6 => rw [sFld, isI_0_6]; rfl
  | k + 7 => rw [sFld, show ll_isI 0 (k + 7) = false from isI_out rfl (Nat.le_add_left _ _)]; rfl
theorem fl_1 : (fun k => ([.null, .null, .null, .null, .null, .null, .null, .null, .int 0, .int 0, .int 0, .int 0] : List Value).getD k .null) = sFld 1 (fun _ => 0) (fun _ => none) := by
  funext k
  match k with
  | 0 => rw [sFld, isI_1_0]; rfl
  | 1 => rw [sFld, isI_1_1]; rfl
  | 2 => rw [sFld, isI_1_2]; rfl
  | 3 => rw [sFld, isI_1_3]; rfl
  | 4 => rw [sFld, isI_1_4]; rfl
  | 5 => rw [sFld, isI_1_5]; rfl
  | 6 => rw [sFld, isI_1_6]; rfl
  | 7 => rw [sFld, isI_1_7]; rfl
  | 8 => rw [sFld, isI_1_8]; rfl
  | 9 => rw [sFld, isI_1_9]; rfl
  | 10 => rw [sFld, isI_1_10]; rfl
  | 11 => rw [sFld, isI_1_11]; rfl
  | k + 12 => rw [sFld, show ll_isI 1 (k + 12) = false from isI_out rfl (Nat.le_add_left _ _)]; rfl
theorem fl_2 : (fun k => ([.null, .null, .int 0, .int 0, .int 0] : List Value).getD k .null) = sFld 2 (fun _ => 0) (fun _ => none) := by
  funext k
  match k with
  | 0 => rw [sFld, isI_2_0]; rfl
  | 1 => rw [sFld, isI_2_1]; rfl
  | 2 => rw [sFld, isI_2_2]; rfl
  | 3 => rw [sFld, isI_2_3]; rfl
  | 4 => rw [sFld, isI_2_4]; rfl
  | k + 5 => rw [sFld, show ll_isI 2 (k + 5) = false from isI_out rfl (Nat.le_add_left _ _)]; rfl
theorem fl_3 : (fun k => ([.null, .null, .null, .null, .int 0] : List Value).getD k .null) = sFld 3 (fun _ => 0) (fun _ => none) := by
  funext k
  match k with
  | 0 => rw [sFld, isI_3_0]; rfl
  | 1 => rw [sFld, isI_3_1]; rfl
  | 2 => rw [sFld, isI_3_2]; rfl
  | 3 => rw [sFld, isI_3_3]; rfl
  | 4 => rw [sFld, isI_3_4]; rfl
  | k + 5 => rw [sFld, show ll_isI 3 (k + 5) = false from isI_out rfl (Nat.le_add_left _ _)]; rfl
theorem fl_4 : (fun k => ([.null, .null, .null, .null, .null, .null, .null, .null, .null, .null] : List Value).getD k .null) = sFld 4 (fun _ => 0) (fun _ => none) := by
  funext k
  match k with
  | 0 => rw [sFld, isI_4_0]; rfl
  | 1 => rw [sFld, isI_4_1]; rfl
  | 2 => rw [sFld, isI_4_2]; rfl
  | 3 => rw [sFld, isI_4_3]; rfl
  | 4 => rw [sFld, isI_4_4]; rfl
  | 5 => rw [sFld, isI_4_5]; rfl
  | 6 => rw [sFld, isI_4_6]; rfl
  | 7 => rw [sFld, isI_4_7]; rfl
  | 8 => rw [sFld, isI_4_8]; rfl
  | 9 => rw [sFld, isI_4_9]; rfl
  | k + 10 => rw [sFld, show ll_isI 4 (k + 10) = false from isI_out rfl (Nat.le_add_left _ _)]; rfl
theorem fl_5 : (fun k => ([.null, .null, .null, .null, .null, .null, .int 0, .int 0, .int 0, .int 0, .int 0] : List Value).getD k .null) = sFld 5 (fun _ => 0) (fun _ => none) := by
  funext k
  match k with
  | 0 => rw [sFld, isI_5_0]; rfl
  | 1 => rw [sFld, isI_5_1]; rfl
  | 2 => rw [sFld, isI_5_2]; rfl
  | 3 => rw [sFld, isI_5_3]; rfl
  | 4 => rw [sFld, isI_5_4]; rfl
  | 5 => rw [sFld, isI_5_5]; rfl
  | 6 => rw [sFld, isI_5_6]; rfl
  | 7 => rw [sFld, isI_5_7]; rfl
  | 8 => rw [sFld, isI_5_8]; rfl
  | 9 => rw [sFld, isI_5_9]; rfl
  | 10 => rw [sFld, isI_5_10]; rfl
  | k + 11 => rw [sFld, show ll_isI 5 (k + 11) = false from isI_out rfl (Nat.le_add_left _ _)]; rfl
theorem fl_6 : (fun k => ([.null, .null, .null, .null, .null, .int 0, .int 0, .int 0] : List Value).getD k .null) = sFld 6 (fun _ => 0) (fun _ => none) := by
  funext k
  match k with
  | 0 => rw [sFld, isI_6_0]; rfl
  | 1 => rw [sFld, isI_6_1]; rfl
  | 2 => rw [sFld, isI_6_2]; rfl
  | 3 => rw [sFld, isI_6_3]; rfl
  | 4 => rw [sFld, isI_6_4]; rfl
  | 5 => rw [sFld, isI_6_5]; rfl
  | 6 => rw [sFld, isI_6_6]; rfl
  | 7 => rw [sFld, isI_6_7]; rfl
  | k + 8 => rw [sFld, show ll_isI 6 (k + 8) = false from isI_out rfl (Nat.le_add_left _ _)]; rfl
theorem fl_7 : (fun k => ([.null, .int 0] : List Value).getD k .null) = sFld 7 (fun _ => 0) (fun _ => none) := by
  funext k
  match k with
  | 0 => rw [sFld, isI_7_0]; rfl
  | 1 => rw [sFld, isI_7_1]; rfl
  | k + 2 => rw [sFld, show ll_isI 7 (k + 2) = false from isI_out rfl (Nat.le_add_left _ _)]; rfl
theorem fl_8 : (fun k => ([.null, .null, .null, .null, .null, .null, .null, .int 0, .int 0, .int 0] : List Value).getD k .null) = sFld 8 (fun _ => 0) (fun _ => none) := by
  funext k
  match k with
  | 0 => rw [sFld, isI_8_0]; rfl
  | 1 => rw [sFld, isI_8_1]; rfl
  | 2 => rw [sFld, isI_8_2]; rfl
  | 3 => rw [sFld, isI_8_3]; rfl
  | 4 => rw [sFld, isI_8_4]; rfl
  | 5 => rw [sFld, isI_8_5]; rfl
  | 6 => rw [sFld, isI_8_6]; rfl
  | 7 => rw [sFld, isI_8_7]; rfl
  | 8 => rw [sFld, isI_8_8]; rfl
  | 9 => rw [sFld, isI_8_9]; rfl
  | k + 10 => rw [sFld, show ll_isI 8 (k + 10) = false from isI_out rfl (Nat.le_add_left _ _)]; rfl
theorem fl_9 : (fun k => ([.null, .null, .null, .null, .null, .null, .int 0] : List Value).getD k .null) = sFld 9 (fun _ => 0) (fun _ => none) := by
  funext k
  match k with
  | 0 => rw [sFld, isI_9_0]; rfl
  | 1 => rw [sFld, isI_9_1]; rfl
  | 2 => rw [sFld, isI_9_2]; rfl
  | 3 => rw [sFld, isI_9_3]; rfl
  | 4 => rw [sFld, isI_9_4]; rfl
  | 5 => rw [sFld, isI_9_5]; rfl
  | 6 => rw [sFld, isI_9_6]; rfl
  | k + 7 => rw [sFld, show ll_isI 9 (k + 7) = false from isI_out rfl (Nat.le_add_left _ _)]; rfl
theorem fl_10 : (fun k => ([.null, .null, .null, .null, .null, .null, .null, .null, .null, .null, .null] : List Value).getD k .null) = sFld 10 (fun _ => 0) (fun _ => none) := by
  funext k
  match k with
  | 0 => rw [sFld, isI_10_0]; rfl
  | 1 => rw [sFld, isI_10_1]; rfl
  | 2 => rw [sFld, isI_10_2]; rfl
  | 3 => rw [sFld, isI_10_3]; rfl
  | 4 => rw [sFld, isI_10_4]; rfl
  | 5 => rw [sFld, isI_10_5]; rfl
  | 6 => rw [sFld, isI_10_6]; rfl
  | 7 => rw [sFld, isI_10_7]; rfl
  | 8 => rw [sFld, isI_10_8]; rfl
  | 9 => rw [sFld, isI_10_9]; rfl
  | 10 => rw [sFld, isI_10_10]; rfl
  | k + 11 => rw [sFld, show ll_isI 10 (k + 11) = false from isI_out rfl (Nat.le_add_left _ _)]; rfl
theorem fl_11 : (fun k => ([.null, .null, .null, .int 0, .int 0, .null, .null, .null, .null, .null, .null, .null, .int 0, .int 0, .null, .null, .null, .int 0, .null, .int 0, .null, .null, .null, .null, .null, .int 0, .int 0, .null, .null, .int 0, .int 0, .null, .null, .int 0, .null, .null, .null, .null, .null, .null, .null, .null, .int 0, .int 0, .int 0, .null] : List Value).getD k .null) = sFld 11 (fun _ => 0) (fun _ => none) := by
  funext k
  match k with
  | 0 => rw [sFld, isI_11_0]; rfl
  | 1 => rw [sFld, isI_11_1]; rfl
  | 2 => rw [sFld, isI_11_2]; rfl
  | 3 => rw [sFld, isI_11_3]; rfl
  | 4 => rw [sFld, isI_11_4]; rfl
  | 5 => rw [sFld, isI_11_5]; rfl
  | 6 => rw [sFld, isI_11_6]; rfl
  | 7 => rw [sFld, isI_11_7]; rfl
  | 8 => rw [sFld, isI_11_8]; rfl
  | 9 => rw [sFld, isI_11_9]; rfl
  | 10 => rw [sFld, isI_11_10]; rfl
  | 11 => rw [sFld, isI_11_11]; rfl
  | 12 => rw [sFld, isI_11_12]; rfl
  | 13 => rw [sFld, isI_11_13]; rfl
  | 14 => rw [sFld, isI_11_14]; rfl
  | 15 => rw [sFld, isI_11_15]; rfl
  | 16 => rw [sFld, isI_11_16]; rfl
  | 17 => rw [sFld, isI_11_17]; rfl
  | 18 => rw [sFld, isI_11_18]; rfl
  | 19 => rw [sFld, isI_11_19]; rfl
  | 20 => rw [sFld, isI_11_20]; rfl
  | 21 => rw [sFld, isI_11_21]; rfl
  | 22 => rw [sFld, isI_11_22]; rfl
  | 23 => rw [sFld, isI_11_23]; rfl
  | 24 => rw [sFld, isI_11_24]; rfl
  | 25 => rw [sFld, isI_11_25]; rfl
  | 26 => rw [sFld, isI_11_26]; rfl
  | 27 => rw [sFld, isI_11_27]; rfl
  | 28 => rw [sFld, isI_11_28]; rfl
  | 29 => rw [sFld, isI_11_29]; rfl
  | 30 => rw [sFld, isI_11_30]; rfl
  | 31 => rw [sFld, isI_11_31]; rfl
  | 32 => rw [sFld, isI_11_32]; rfl
  | 33 => rw [sFld, isI_11_33]; rfl
  | 34 => rw [sFld, isI_11_34]; rfl
  | 35 => rw [sFld, isI_11_35]; rfl
  | 36 => rw [sFld, isI_11_36]; rfl
  | 37 => rw [sFld, isI_11_37]; rfl
  | 38 => rw [sFld, isI_11_38]; rfl
  | 39 => rw [sFld, isI_11_39]; rfl
  | 40 => rw [sFld, isI_11_40]; rfl
  | 41 => rw [sFld, isI_11_41]; rfl
  | 42 => rw [sFld, isI_11_42]; rfl
  | 43 => rw [sFld, isI_11_43]; rfl
  | 44 => rw [sFld, isI_11_44]; rfl
  | 45 => rw [sFld, isI_11_45]; rfl
  | k + 46 => rw [sFld, show ll_isI 11 (k + 46) = false from isI_out rfl (Nat.le_add_left _ _)]; rfl
