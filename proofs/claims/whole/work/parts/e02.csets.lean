/-! the class's side: terms, sets, likeness -/
theorem sp_inj {x y : Cond} (cx : cn x) (cy : cn y) (h : sp x 0 = sp y 0) : x = y := by
  have h1 := rd_back cx
  rw [h, rd_back cy] at h1
  cases h1; rfl
/-- the side c tells the terms of X -/
def sdX (L : Nat) (xs : Nat → Int32) (s : sT) (c : Nat) (X : Cond) : Prop := sdK (yY L xs) s.2 c ∧ sdC s.1 c (sdOf X) ∧ cn X ∧ z0 X ≤ 30
theorem catT_pre {F : List Cond} (k : Nat) : (catT (F.take k)).length ≤ (catT F).length := by
  have e := catT_app (F.take k) (F.drop k)
  rw [List.take_append_drop] at e
  rw [e, List.length_append]; omega
section SX
variable {L : Nat} {xs : Nat → Int32} {d : Nat} {s : sT} {K : Option Int32 → sT → Prop} {c c' : Nat} {X X' : Cond}
theorem sdX_6 (h : sdX L xs s c X) : s.1 c 6 = nI (tms X).length := h.2.1.2.1.1
theorem sdX_31 (h : sdX L xs s c X) : (tms X).length ≤ 31 := tms_31 h.2.2.1 h.2.2.2
theorem sdX_cat (h : sdX L xs s c X) : (catT (tms X)).length ≤ 4960 := by
  have := catT_le (m := 136) (fun y hy => tms_136 h.2.2.1 h.2.2.2 hy)
  have := sdX_31 h
  omega
theorem sdX_cn (h : sdX L xs s c X) {t : Nat} {y : Cond} (ht : (tms X)[t]? = some y) : cn y := tms_cn h.2.2.1 (by have := lts_30 h.2.2.2; omega) (List.mem_of_getElem? ht)
theorem sdX_nd (h : sdX L xs s c X) : (tms X).Nodup := (tms_all h.2.2.1 (by have := lts_30 h.2.2.2; omega)).1
theorem c_isTerm {i : Int32} (h : sdX L xs s c X) (h1 : ∀ k, i = nI k → k < (tms X).length → K (some 1) s) (h0 : (i < 0 ∨ nI (tms X).length ≤ i) → K (some 0) s) : tT (yY L xs) d 45 0 [.ref c, .int i] [] s K := by
  have h31 := sdX_31 h
  refine b_45_0 ?_
  by_cases hn : i < 0
  · rw [if_pos hn]; exact h0 (Or.inl hn)
  · rw [if_neg hn]
    refine ⟨h.1.1, ?_⟩
    rw [sdX_6 h]
    by_cases hl : nI (tms X).length ≤ i
    · rw [if_pos hl]; exact h0 (Or.inr hl)
    · rw [if_neg hl]
      obtain ⟨k, hk, rfl⟩ := i32_ex hn
      rw [nJ_le (by omega) hk] at hl
      exact h1 k rfl (by omega)
theorem c_anyFull {S : Int32} (h : sdX L xs s c X) (hK : K (some (bz (anyF (tms X) S))) s) : tT (yY L xs) d 47 0 [.ref c, .int S] [] s K := by
  refine b_47_0 ⟨h.1.1, ?_⟩
  have e9 : s.1 c 9 = fulM (tms X) (tms X).length := h.2.1.2.1.2.2.2
  rw [e9]
  by_cases e : S &&& fulM (tms X) (tms X).length = 0
  · rw [if_pos e]
    have : anyF (tms X) S = false := decide_eq_false (fun q => q e)
    rw [this] at hK; exact hK
  · rw [if_neg e]
    have : anyF (tms X) S = true := decide_eq_true e
    rw [this] at hK; exact hK
theorem c_partsOfSet {S : Int32} {x : Nat} (h : sdX L xs s c X) (hx : x < 3) (hK : K (some (pso (tms X) S x (tms X).length)) s) : tT (yY L xs) (d + 1) 54 0 [.ref c, .int S, .int (nI x), .null, .null] [] s K := by
  have h31 := sdX_31 h
  have loop : ∀ q t, q + t = (tms X).length → tT (yY L xs) (d + 1) 54 18 [.ref c, .int S, .int (nI x), .int (pso (tms X) S x t), .int (nI t)] [] s K := by
    intro q
    induction q with
    | zero =>
      intro t ht
      refine b_54_18 ⟨h.1.1, ?_⟩
      rw [sdX_6 h, if_pos (by rw [nJ_le (by omega) (by omega)]; omega), show t = (tms X).length by omega]
      exact hK
    | succ q ih =>
      intro t ht
      have e := ih (t + 1) (by omega)
      have ep : pso (tms X) S x (t + 1) = if bt S t = true then pso (tms X) S x t ||| setR (tms X) (3 * t + x) else pso (tms X) S x t := rfl
      rw [ep, nI_succ] at e
      refine b_54_18 ⟨h.1.1, ?_⟩
      rw [sdX_6 h, if_neg (by rw [nJ_le (by omega) (by omega)]; omega)]
      by_cases hb : bt S t = true
      · rw [if_neg (fun q => by rw [(bt_t0 (by omega)).mp q] at hb; cases hb)]
        rw [if_pos hb] at e
        refine ⟨c + 6, ⟨h.1.1, h.1.2.1.2.2.2.1⟩, 93, ?_⟩
        have es : s.1 (c + 6) (t * 3 + x) = setR (tms X) (3 * t + x) := by
          rw [show t * 3 + x = 3 * t + x by omega]
          exact h.2.1.2.2.2.2.1 (3 * t + x) (show 3 * t + x < 3 * (tms X).length by omega)
        rw [nI_lit 3, nJ_mul, nJ_add, nI_cl (show t * 3 + x < 2147483648 by omega), es]
        exact ⟨⟨h.1.2.2.2.2.2.1, inR_nI (by omega) (by decide)⟩, b_54_50 e⟩
      · have hb' : bt S t = false := by cases e : bt S t with | false => rfl | true => exact absurd e hb
        rw [if_pos ((bt_t0 (by omega)).mpr hb')]
        rw [if_neg hb] at e
        exact b_54_50 e
  refine b_54_0 ?_
  by_cases hS : S = 0
  · rw [if_pos hS]
    rw [hS, pso_0] at hK
    exact hK
  · rw [if_neg hS]
    refine b_56_0 ?_
    rw [if_neg (nI_nn (by omega)), if_neg (by rw [nI_lit 3, nJ_le (by decide) (by omega)]; omega)]
    rw [rt_some]
    refine b_54_10 ?_
    rw [if_pos (by decide)]
    exact loop _ 0 rfl
theorem c_signsStart {t : Nat} (h : sdX L xs s c X) (ht : t < (tms X).length) (hK : K (some (nI (catT ((tms X).take t)).length)) s) : tT (yY L xs) d 57 0 [.ref c, .int (nI t)] [] s K := by
  have h31 := sdX_31 h
  refine b_57_0 ?_
  cases t with
  | zero => rw [if_neg (show ¬ ¬ nI 0 = 0 from fun q => q rfl)]; exact hK
  | succ t =>
    rw [if_pos (show ¬ nI (t + 1) = 0 from fun e => by have := (nJ_eq (b := 0) (by omega) (by decide)).mp e; omega)]
    refine ⟨c + 5, ⟨h.1.1, h.1.2.1.2.2.1⟩, 31, ?_⟩
    rw [nI_pred, nI_cl (by omega)]
    have e5 : s.1 (c + 5) t = nI (catT ((tms X).take (t + 1))).length := h.2.1.2.2.2.1 t (show t < (tms X).length by omega)
    rw [e5]
    exact ⟨⟨h.1.2.2.2.2.1, inR_nI (by omega) (by decide)⟩, hK⟩
theorem c_termBytes {t : Nat} {y : Cond} (h : sdX L xs s c X) (ht : (tms X)[t]? = some y) (hK : K (some (nI (z0 y))) s) : tT (yY L xs) (d + 1) 49 0 [.ref c, .int (nI t)] [] s K := by
  have h31 := sdX_31 h
  have htl := (List.getElem?_eq_some_iff.mp ht).1
  refine b_49_0 ⟨h.1.1, c_isTerm h (fun k e hk => ?_) (fun q => ?_)⟩
  · rw [rt_some]
    refine b_49_5 ?_
    rw [if_neg (by decide)]
    refine ⟨c + 5, ⟨h.1.1, h.1.2.1.2.2.1⟩, 31, ⟨h.1.2.2.2.2.1, inR_nI (by omega) (by decide)⟩, h.1.1, c_signsStart h htl ?_⟩
    rw [rt_some]
    refine b_49_19 ?_
    have e5 : s.1 (c + 5) t = nI (catT ((tms X).take (t + 1))).length := h.2.1.2.2.2.1 t htl
    rw [nI_cl (by omega), e5, catT_take ht, List.length_append, nJ_sub (by omega), Nat.add_sub_cancel_left]
    exact hK
  · exfalso
    rcases q with q | q
    · exact nI_nn (by omega) q
    · rw [nJ_le (by omega) (by omega)] at q; omega
/-- a byte of a term's signs -/
theorem sdX_byte (h : sdX L xs s c X) {t i : Nat} {y : Cond} {b : Int32} (ht : (tms X)[t]? = some y) (hi : (sp y 0)[i]? = some b) : (catT ((tms X).take t)).length + i < (catT (tms X)).length ∧ s.1 (c + 3 + 1) ((catT ((tms X).take t)).length + i) = b := by
  have hil := (List.getElem?_eq_some_iff.mp hi).1
  have h1 := catT_pre (F := tms X) (t + 1)
  rw [catT_take ht, List.length_append] at h1
  have h2 : (catT ((tms X).take t)).length + i < (catT (tms X)).length := by omega
  refine ⟨h2, ?_⟩
  rw [h.2.1.2.2.1.2 _ h2]
  have e := catT_app ((tms X).take (t + 1)) ((tms X).drop (t + 1))
  rw [List.take_append_drop, catT_take ht] at e
  show (catT (tms X)).getD _ 0 = b
  rw [List.getD_eq_getElem?_getD, e, List.getElem?_append_left (by rw [List.length_append]; omega), List.getElem?_append_right (by omega), Nat.add_sub_cancel_left, hi]; rfl
theorem c_isAlike {k t : Nat} {y y' : Cond} (h : sdX L xs s c X) (h' : sdX L xs s c' X') (hk : (tms X)[k]? = some y) (ht : (tms X')[t]? = some y') (hK : K (some (bz (decide (y = y')))) s) : tT (yY L xs) (d + 2) 58 0 [.ref c, .int (nI k), .ref c', .int (nI t), .null, .null, .null, .null] [] s K := by
  have cy := sdX_cn h hk
  have cy' := sdX_cn h' ht
  have hc := sdX_cat h
  have hc' := sdX_cat h'
  have hkl := (List.getElem?_eq_some_iff.mp hk).1
  have htl := (List.getElem?_eq_some_iff.mp ht).1
  have z136 : z0 y ≤ 136 := tms_136 h.2.2.1 h.2.2.2 (List.mem_of_getElem? hk)
  have z136' : z0 y' ≤ 136 := tms_136 h'.2.2.1 h'.2.2.2 (List.mem_of_getElem? ht)
  refine b_58_0 ⟨h.1.1, c_termBytes h hk ?_⟩
  rw [rt_some]
  refine b_58_5 ⟨h'.1.1, c_termBytes h' ht ?_⟩
  rw [rt_some]
  refine b_58_14 ?_
  by_cases hz : z0 y = z0 y'
  · rw [if_pos (by rw [hz])]
    refine ⟨h.1.1, c_signsStart h hkl ?_⟩
    rw [rt_some]
    refine b_58_24 ⟨h'.1.1, c_signsStart h' htl ?_⟩
    rw [rt_some]
    have hx := h.1.2.2.2.1
    have hx' := h'.1.2.2.2.1
    have loop : ∀ q i, q + i = z0 y → (∀ u, u < i → (sp y 0)[u]? = (sp y' 0)[u]?) → tT (yY L xs) (d + 2) 58 36 [.ref c, .int (nI k), .ref c', .int (nI t), .int (nI (z0 y)), .int (nI (catT ((tms X).take k)).length), .int (nI (catT ((tms X').take t)).length), .int (nI i)] [] s K := by
      intro q
      induction q with
      | zero =>
        intro i hi hn
        refine b_58_36 ?_
        rw [if_pos (by rw [nJ_le (by omega) (by omega)]; omega)]
        have e : y = y' := sp_inj cy cy' (List.ext_getElem? (fun u => by
          by_cases hu : u < z0 y
          · exact hn u (by omega)
          · rw [List.getElem?_eq_none (show (sp y 0).length ≤ u by show z0 y ≤ u; omega), List.getElem?_eq_none (show (sp y' 0).length ≤ u by show z0 y' ≤ u; omega)]))
        rw [decide_eq_true e] at hK
        exact hK
      | succ q ih =>
        intro i hi hn
        have hi1 : i < (sp y 0).length := by show i < z0 y; omega
        have hi2 : i < (sp y' 0).length := by show i < z0 y'; omega
        obtain ⟨p1, p2⟩ := sdX_byte h hk (List.getElem?_eq_getElem hi1)
        obtain ⟨p1', p2'⟩ := sdX_byte h' ht (List.getElem?_eq_getElem hi2)
        refine b_58_36 ?_
        rw [if_neg (by rw [nJ_le (by omega) (by omega)]; omega)]
        refine ⟨c + 3, ⟨h.1.1, h.1.2.1.2.1⟩, hx.1, ?_⟩
        rw [nJ_add]
        refine x_at_in hx h.2.1.2.2.1.1 hc p1 ?_
        rw [rt_some, p2]
        refine b_58_55 ⟨c' + 3, ⟨h'.1.1, h'.1.2.1.2.1⟩, hx'.1, ?_⟩
        rw [nJ_add]
        refine x_at_in hx' h'.2.1.2.2.1.1 hc' p1' ?_
        rw [rt_some, p2']
        refine b_58_67 ?_
        by_cases e : (sp y 0)[i] = (sp y' 0)[i]
        · rw [if_pos e, ← nI_succ]
          exact ih (i + 1) (by omega) (fun u hu => by
            by_cases eu : u = i
            · subst eu; rw [List.getElem?_eq_getElem hi1, List.getElem?_eq_getElem hi2, e]
            · exact hn u (by omega))
        · rw [if_neg e]
          have hne : y ≠ y' := fun q => e (by subst q; rfl)
          rw [decide_eq_false hne] at hK
          exact hK
    exact b_58_31 (loop (z0 y) 0 (by omega) (fun u hu => absurd hu (Nat.not_lt_zero _)))
  · rw [if_neg (by rw [nJ_eq (by omega) (by omega)]; exact hz)]
    have hne : y ≠ y' := fun q => hz (by rw [q])
    rw [decide_eq_false hne] at hK
    exact hK
/-- the term of c that is like a term of c' -/
theorem c_alikeTerm {i : Int32} (h : sdX L xs s c X) (h' : sdX L xs s c' X') (h1 : ∀ t y, i = nI t → (tms X')[t]? = some y → K (some (if y ∈ tms X then nI ((tms X).idxOf y) else -1)) s) (h0 : (i < 0 ∨ nI (tms X').length ≤ i) → K (some (-1)) s) : tT (yY L xs) (d + 3) 55 0 [.ref c, .ref c', .int i, .null] [] s K := by
  have h31 := sdX_31 h
  refine b_55_0 ⟨h'.1.1, c_isTerm h' (fun t e ht => ?_) (fun q => ?_)⟩
  · rw [rt_some]
    have hy := List.getElem?_eq_getElem ht
    generalize (tms X')[t] = y at hy
    subst e
    have h1' := h1 t y rfl hy
    refine b_55_5 ?_
    rw [if_pos (by decide)]
    have loop : ∀ q k, q + k = (tms X).length → (∀ u, u < k → (tms X)[u]? ≠ some y) → tT (yY L xs) (d + 3) 55 12 [.ref c, .ref c', .int (nI t), .int (nI k)] [] s K := by
      intro q
      induction q with
      | zero =>
        intro k hk hn
        refine b_55_12 ⟨h.1.1, ?_⟩
        rw [sdX_6 h, if_pos (by rw [nJ_le (by omega) (by omega)]; omega)]
        rw [if_neg (fun hc => by
          obtain ⟨u, hu⟩ := List.getElem?_of_mem hc
          have := (List.getElem?_eq_some_iff.mp hu).1
          exact hn u (by omega) hu)] at h1'
        exact h1'
      | succ q ih =>
        intro k hk hn
        have hk' : k < (tms X).length := by omega
        have hyk := List.getElem?_eq_getElem hk'
        generalize (tms X)[k] = yk at hyk
        refine b_55_12 ⟨h.1.1, ?_⟩
        rw [sdX_6 h, if_neg (by rw [nJ_le (by omega) (by omega)]; omega)]
        refine ⟨h.1.1, c_isAlike h h' hyk hy ?_⟩
        rw [rt_some]
        refine b_55_27 ?_
        by_cases e : yk = y
        · rw [decide_eq_true e, if_neg (show ¬ bz true = 0 by decide)]
          rw [e] at hyk
          rw [if_pos (List.mem_of_getElem? hyk), idx_at (sdX_nd h) hyk] at h1'
          exact h1'
        · rw [decide_eq_false e, if_pos (show bz false = 0 from rfl), ← nI_succ]
          exact ih (k + 1) (by omega) (fun u hu => by
            by_cases eu : u = k
            · subst eu; rw [hyk]; exact fun q => e (Option.some.inj q)
            · exact hn u (by omega))
    exact loop _ 0 rfl (fun u hu => absurd hu (Nat.not_lt_zero _))
  · rw [rt_some]
    refine b_55_5 ?_
    rw [if_neg (fun q => q rfl)]
    exact h0 q
end SX
