/-! TERM, SHAPE -/
def byA (l : List Int32) (x : Int32) : Int32 := if x < 0 ∨ nI l.length ≤ x then -1 else l.getD x.toNatClampNeg 0
theorem by_in {l : List Int32} {k : Nat} {c : Int32} (hl : l.length < 100000) (h : l[k]? = some c) : byA l (nI k) = c := by
  have hk := (List.getElem?_eq_some_iff.mp h).1
  unfold byA
  rw [if_neg (fun q => by
    rcases q with q | q
    · exact nI_nn (by omega) q
    · rw [nJ_le (by omega) (by omega)] at q; omega), nI_cl (by omega), List.getD_eq_getElem?_getD, h]; rfl
theorem by_low {l : List Int32} {w : Int32} (hl : l.length < 100000) (h : w < 10) : byA l (w - 10) = -1 := by
  refine if_pos ?_
  by_cases h0 : (w - 10) < 0
  · exact Or.inl h0
  · refine Or.inr ?_
    obtain ⟨n, hn, e⟩ := i32_ex h0
    rw [e, nJ_le (by omega) hn]
    refine Nat.le_of_not_lt (fun hlt => ?_)
    have ew : w = nI n + 10 := by rw [← e, Int32.sub_add_cancel]
    rw [ew, nI_lit 10, nJ_add, nJ_lt (by omega) (by omega)] at h
    omega
theorem anyF_bit {F : List Cond} {t : Nat} {y : Cond} (hF : F.length ≤ 31) (ht : F[t]? = some y) : anyF F (bitI t) = full y := by
  have htl := (List.getElem?_eq_some_iff.mp ht).1
  have egd : F.getD t S0 = y := by rw [List.getD_eq_getElem?_getD, ht]; rfl
  cases hf : full y with
  | true => exact (anyF_iff hF).mpr ⟨t, htl, by rw [bt_bitI (by omega) (by omega)]; exact decide_eq_true rfl, by rw [egd]; exact hf⟩
  | false =>
    cases ea : anyF F (bitI t) with
    | false => rfl
    | true =>
      obtain ⟨u, h1, h2, h3⟩ := (anyF_iff hF).mp ea
      rw [bt_bitI (by omega) (by omega)] at h2
      have e := of_decide_eq_true h2
      subst e
      rw [egd, hf] at h3; cases h3
def tmAns (X : Cond) (i w : Int32) : Int32 := if i < 0 ∨ nI (tms X).length ≤ i then -1 else if w = 0 then bz (full ((tms X).getD i.toNatClampNeg S0)) else if w = 1 then nI (z0 ((tms X).getD i.toNatClampNeg S0)) else if w = 2 ∨ w = 3 ∨ w = 4 then setR (tms X) (3 * i.toNatClampNeg + (w - 2).toNatClampNeg) else byA (sp ((tms X).getD i.toNatClampNeg S0) 0) (w - 10)
theorem tm_in {X y : Cond} {t : Nat} {w : Int32} (h31 : (tms X).length ≤ 31) (ht : (tms X)[t]? = some y) : tmAns X (nI t) w = if w = 0 then bz (full y) else if w = 1 then nI (z0 y) else if w = 2 ∨ w = 3 ∨ w = 4 then setR (tms X) (3 * t + (w - 2).toNatClampNeg) else byA (sp y 0) (w - 10) := by
  have htl := (List.getElem?_eq_some_iff.mp ht).1
  have egd : (tms X).getD t S0 = y := by rw [List.getD_eq_getElem?_getD, ht]; rfl
  unfold tmAns
  rw [if_neg (fun q => by
    rcases q with q | q
    · exact nI_nn (by omega) q
    · rw [nJ_le (by omega) (by omega)] at q; omega), nI_cl (by omega), egd]
/-- counts -/
theorem cnt_list {f : Nat → Int32} {l : List Int32} (h : ∀ i c, l[i]? = some c → f i = c) (b : Int32) : cnt f b l.length = l.count b := by
  have go : ∀ n, n ≤ l.length → cnt f b n = (l.take n).count b := by
    intro n
    induction n with
    | zero => intro _; rw [List.take_zero]; rfl
    | succ n ih =>
      intro hn
      have hn' : n < l.length := by omega
      rw [List.take_succ_eq_append_getElem hn', List.count_append, ← ih (by omega)]
      show cnt f b n + (if f n = b then 1 else 0) = _
      rw [h n _ (List.getElem?_eq_getElem hn'), List.count_singleton]
      congr 1
      by_cases e : l[n] = b
      · rw [if_pos e, e]; simp
      · rw [if_neg e]; simp [e]
  have := go l.length (Nat.le_refl _)
  rw [List.take_length] at this
  exact this
def isLt (c : Int32) : Bool := decide (c = 97 ∨ c = 98 ∨ c = 99)
theorem lt_count : ∀ l : List Int32, l.countP isLt = l.count 97 + l.count 98 + l.count 99
  | [] => rfl
  | c :: l => by
    have ih := lt_count l
    rw [List.countP_cons, List.count_cons, List.count_cons, List.count_cons, ih]
    by_cases h1 : c = 97
    · subst h1
      rw [show isLt 97 = true by decide, show ((97 : Int32) == 97) = true by decide, show ((97 : Int32) == 98) = false by decide, show ((97 : Int32) == 99) = false by decide]
      simp only [if_true]; simp; omega
    · by_cases h2 : c = 98
      · subst h2
        rw [show isLt 98 = true by decide, show ((98 : Int32) == 97) = false by decide, show ((98 : Int32) == 98) = true by decide, show ((98 : Int32) == 99) = false by decide]
        simp only [if_true]; simp; omega
      · by_cases h3 : c = 99
        · subst h3
          rw [show isLt 99 = true by decide, show ((99 : Int32) == 97) = false by decide, show ((99 : Int32) == 98) = false by decide, show ((99 : Int32) == 99) = true by decide]
          simp only [if_true]; simp; omega
        · have e : isLt c = false := decide_eq_false (fun q => by rcases q with q | q | q; exact h1 q; exact h2 q; exact h3 q)
          have e1 : (c == 97) = false := by simp [h1]
          have e2 : (c == 98) = false := by simp [h2]
          have e3 : (c == 99) = false := by simp [h3]
          rw [e, e1, e2, e3]; simp
/-- no stars spelt, no stars -/
theorem ns_42 : ∀ {x : Cond}, cn x → ∀ p, (sp x p).count 42 = 0 ↔ ns x = 0 := by
  intro x
  induction x with
  | count k =>
    intro h p
    have hk : k < 5 := h
    have e : [atB k].count 42 = 0 := by
      rcases (show k = 0 ∨ k = 1 ∨ k = 2 ∨ k = 3 ∨ k = 4 by omega) with rfl | rfl | rfl | rfl | rfl <;> decide
    exact ⟨fun _ => rfl, fun _ => e⟩
  | not a iha =>
    intro h p
    show (sp a 2 ++ [42]).count 42 = 0 ↔ ns a + 1 = 0
    rw [List.count_append, show [(42 : Int32)].count 42 = 1 by decide]
    omega
  | or a b iha ihb =>
    intro h p
    have h1 := iha h.1 0
    have h2 := ihb h.2.2.2.1 0
    have e1 : (sp a 0 ++ 43 :: sp b 0).count 42 = (sp a 0).count 42 + (sp b 0).count 42 := by
      rw [List.count_append, List.count_cons, if_neg (by decide)]; rfl
    show (if p = 0 then sp a 0 ++ 43 :: sp b 0 else 40 :: (sp a 0 ++ 43 :: sp b 0 ++ [41])).count 42 = 0 ↔ max (ns a) (ns b) = 0
    split
    · rw [e1]; omega
    · rw [List.count_cons, if_neg (by decide), List.count_append, e1, show [(41 : Int32)].count 42 = 0 by decide]; omega
  | and a b iha ihb =>
    intro h p
    have h1 := iha h.1 1
    have h2 := ihb h.2.2.2.2.1 1
    show (if p = 2 then 40 :: (sp a 1 ++ sp b 1 ++ [41]) else sp a 1 ++ sp b 1).count 42 = 0 ↔ max (ns a) (ns b) = 0
    split
    · rw [List.count_cons, if_neg (by decide), List.count_append, List.count_append, show [(41 : Int32)].count 42 = 0 by decide]; omega
    · rw [List.count_append]; omega
  | _ => intro h; exact h.elim
def shAns (X : Cond) (w : Int32) : Int32 := if w = 0 then nI (tms X).length else if w = 1 then bz (full X) else if w = 2 then nI (z0 X) else if w = 3 then nI ((sp X 0).countP isLt) else if w = 4 then nI ((sp X 0).count 42) else if w = 5 then bI (X = S0) else if w = 6 then bI (ns X = 0) else if w = 7 then sh X else if w = 8 then nI (ns X) else byA (sp X 0) (w - 10)
theorem tms_at0 {X : Cond} (cX : cn X) (zX : z0 X ≤ 30) : (tms X)[0]? = some X := (tms_all cX (by have := lts_30 zX; omega)).2.2.2
section TS
variable {L : Nat} {xs : Nat → Int32} {d : Nat} {s : sT} {K : Option Int32 → sT → Prop} {R : rmT} {I : Nat → Option rmT}
theorem c_term {σ : Nat} {i w : Int32} {X : Cond} (hC : simC s R I) (hσ : σ < 2) (e : sideOf R σ = sdOf X) (cX : cn X) (zX : z0 X ≤ 30) : doC (yY L xs) (d + 3) 121 [.ref 0, .int (nI σ), .int i, .int w, .null] s R I (some (tmAns X i w)) R I := by
  intro K kk
  have hP := hC.1
  obtain ⟨c, hc, hx⟩ := now_side (L := L) (xs := xs) hC hσ e cX zX
  have h31 := sdX_31 hx
  have fin : K (some (tmAns X i w)) s := kk s hC (fun _ _ => ⟨rfl, rfl⟩)
  have q64 : isQ (yY L xs) 64 5 2 ∧ inR (nI σ) 2 ∧ s.2 64 (nI σ).toNatClampNeg = some c := ⟨sq_64, inR_nI hσ (by decide), by rw [nI_cl (by omega)]; exact hc⟩
  refine b_121_0 (c_isSide (fun _ _ _ => ?_) (fun hn => absurd rfl (hn σ hσ)))
  rw [rt_some]
  refine b_121_4 ?_
  rw [if_neg (by decide)]
  refine ⟨61, ⟨so_0, rp_0_8 hP⟩, 64, ⟨so_61, rp_61_1 hP⟩, 5, 2, c, q64, hx.1.1, c_isTerm hx (fun t et ht => ?_) (fun q => ?_)⟩
  · rw [rt_some]
    subst et
    have hy := List.getElem?_eq_getElem ht
    generalize (tms X)[t] = y at hy
    rw [tm_in h31 hy] at fin
    have cy := sdX_cn hx hy
    have z136 : z0 y ≤ 136 := tms_136 cX zX (List.mem_of_getElem? hy)
    have hcat := sdX_cat hx
    refine b_121_20 ?_
    rw [if_pos (by decide)]
    have at105 : ∀ x, x < 3 → w = nI (2 + x) → tT (yY L xs) (d + 2) 51 0 [.ref c, .int (nI t), .int (w - 2)] [] s (fun r s1 => tT (yY L xs) (d + 2 + 1) 121 105 [.ref 0, .int (nI σ), .int (nI t), .int w, .ref c] ((r.map Value.int).toList ++ []) s1 K) := by
      intro x hx3 ew
      have ew2 : w - 2 = nI x := by rw [ew, nI_lit 2, nJ_sub (by omega), show 2 + x - 2 = x by omega]
      rw [if_neg (by rw [ew, nI_lit 0, nJ_eq (by omega) (by omega)]; omega), if_neg (by rw [ew, nI_lit 1, nJ_eq (by omega) (by omega)]; omega), if_pos (by
        rw [ew]
        rcases (show x = 0 ∨ x = 1 ∨ x = 2 by omega) with rfl | rfl | rfl
        · exact Or.inl rfl
        · exact Or.inr (Or.inl rfl)
        · exact Or.inr (Or.inr rfl)), ew2, nI_cl (by omega)] at fin
      rw [ew2]
      refine b_51_0 ⟨hx.1.1, c_isTerm hx (fun _ _ _ => ?_) (fun q => ?_)⟩
      · rw [rt_some]
        refine b_51_5 ?_
        rw [if_neg (by decide)]
        refine b_56_0 ?_
        rw [if_neg (nI_nn (by omega)), if_neg (by rw [nI_lit 3, nJ_le (by omega) (by omega)]; omega), rt_some]
        refine b_51_12 ?_
        rw [if_neg (by decide)]
        refine ⟨c + 6, ⟨hx.1.1, hx.1.2.1.2.2.2.1⟩, 93, ?_⟩
        have es : s.1 (c + 6) (t * 3 + x) = setR (tms X) (3 * t + x) := by
          rw [show t * 3 + x = 3 * t + x by omega]
          exact hx.2.1.2.2.2.2.1 (3 * t + x) (show 3 * t + x < 3 * (tms X).length by omega)
        rw [nI_lit 3, nJ_mul, nJ_add, nI_cl (show t * 3 + x < 2147483648 by omega), es, rt_some]
        exact ⟨⟨hx.1.2.2.2.2.2.1, inR_nI (by omega) (by decide)⟩, b_121_105 fin⟩
      · exfalso
        rcases q with q | q
        · exact nI_nn (by omega) q
        · rw [nJ_le (by omega) (by omega)] at q; omega
    refine ⟨61, ⟨so_0, rp_0_8 hP⟩, 64, ⟨so_61, rp_61_1 hP⟩, 5, 2, c, q64, fun ew => ?_, fun ew => ?_, fun ew => ?_, fun ew => ?_, fun ew => ?_, fun ew => ?_⟩
    · refine ⟨hx.1.1, c_anyFull hx ?_⟩
      rw [rt_some]
      have eb : anyF (tms X) ((1 : Int32) <<< (nI t &&& 31)) = full y := anyF_bit h31 hy
      rw [eb]
      rw [if_pos ew] at fin
      refine b_121_80 ?_
      cases hf : full y with
      | false => rw [if_pos (show bz false = 0 from rfl)]; rw [hf] at fin; exact fin
      | true => rw [if_neg (show ¬ bz true = 0 by decide)]; rw [hf] at fin; exact fin
    · refine ⟨hx.1.1, c_termBytes hx hy ?_⟩
      rw [rt_some]
      rw [if_neg (by rw [ew]; decide), if_pos ew] at fin
      exact b_121_95 fin
    · exact ⟨hx.1.1, at105 0 (by decide) ew⟩
    · exact ⟨hx.1.1, at105 1 (by decide) ew⟩
    · exact ⟨hx.1.1, at105 2 (by decide) ew⟩
    · obtain ⟨n0, n1, n2, n3, n4⟩ := ew
      rw [if_neg n0, if_neg n1, if_neg (fun q => by rcases q with q | q | q; exact n2 q; exact n3 q; exact n4 q)] at fin
      by_cases h10 : (10 : Int32) ≤ w
      · rw [if_pos h10]
        have hsl : (sp y 0).length < 100000 := by show z0 y < 100000; omega
        refine ⟨hx.1.1, b_50_0 ?_⟩
        by_cases hneg : (w - 10) < 0
        · rw [if_pos hneg, rt_some]
          have : byA (sp y 0) (w - 10) = -1 := if_pos (Or.inl hneg)
          rw [this] at fin
          exact b_121_126 fin
        · rw [if_neg hneg]
          refine ⟨hx.1.1, c_termBytes hx hy ?_⟩
          rw [rt_some]
          refine b_50_10 ?_
          by_cases hge : nI (z0 y) ≤ w - 10
          · rw [if_pos hge, rt_some]
            have : byA (sp y 0) (w - 10) = -1 := if_pos (Or.inr hge)
            rw [this] at fin
            exact b_121_126 fin
          · rw [if_neg hge]
            obtain ⟨k, hk, ek⟩ := i32_ex hneg
            rw [ek] at hge fin ⊢
            rw [nJ_le (by omega) hk] at hge
            have hk' : k < (sp y 0).length := by show k < z0 y; omega
            have hb := List.getElem?_eq_getElem hk'
            rw [by_in hsl hb] at fin
            obtain ⟨p1, p2⟩ := sdX_byte hx hy hb
            refine ⟨c + 3, ⟨hx.1.1, hx.1.2.1.2.1⟩, hx.1.1, c_signsStart hx ht ?_⟩
            rw [rt_some]
            refine b_50_22 ⟨hx.1.2.2.2.1.1, ?_⟩
            rw [nJ_add]
            refine x_at_in hx.1.2.2.2.1 hx.2.1.2.2.1.1 hcat p1 ?_
            rw [rt_some, p2]
            refine b_50_27 ?_
            rw [rt_some]
            exact b_121_126 fin
      · rw [if_neg h10]
        rw [by_low (by show z0 y < 100000; omega) (Int32.not_le.mp h10)] at fin
        exact b_121_126 fin
  · rw [rt_some]
    refine b_121_20 ?_
    rw [if_neg (fun q => q rfl)]
    have : tmAns X i w = -1 := if_pos q
    rw [this] at fin
    exact fin
theorem c_term_no {a i w : Int32} (hC : simC s R I) (h : ∀ k, k < 2 → ¬ a = nI k) : doC (yY L xs) (d + 1) 121 [.ref 0, .int a, .int i, .int w, .null] s R I (some (-1)) R I := by
  intro K kk
  refine b_121_0 (c_isSide (fun k hk e => absurd e (h k hk)) (fun _ => ?_))
  rw [rt_some]
  refine b_121_4 ?_
  rw [if_pos rfl]
  exact kk s hC (fun _ _ => ⟨rfl, rfl⟩)
theorem r_byteAt {l : List Int32} {x : Int32} (hM : rM s.2) (hl : l.length ≤ 600) (h30 : s.1 186 30 = nI l.length) (h207 : ∀ i c, l[i]? = some c → s.1 207 i = c) (hK : K (some (byA l x)) s) : tT (yY L xs) (d + 1) 217 0 [.ref 186, .int x] [] s K := by
  refine b_217_0 ⟨so_186, ?_⟩
  rw [h30]
  refine m_isIn0 (by omega) (fun k e hk => ?_) (fun q => ?_)
  · rw [rt_some]
    subst e
    have hb := List.getElem?_eq_getElem hk
    rw [by_in (by omega) hb] at hK
    refine b_217_11 ?_
    rw [if_neg (by decide)]
    refine ⟨207, ⟨so_186, rm_186_28 hM⟩, 600, ⟨sa_207, inR_nI (by omega) (by decide)⟩, ?_⟩
    rw [nI_cl (by omega), h207 k _ hb]
    exact hK
  · rw [rt_some]
    refine b_217_11 ?_
    rw [if_pos rfl]
    have : byA l x = -1 := if_pos q
    rw [this] at hK
    exact hK
/-- spelling leaves the rest -/
theorem sp_simR {s1 : sT} (hR : simR s R I) (hI : ∀ k R', k < 2 → I k = some R' → rmB gD R') (q1 : s1.2 = s.2 ∧ (∀ z, z ≠ 186 → z ≠ 206 → z ≠ 207 → s1.1 z = s.1 z) ∧ ∀ z, z ≠ 29 → z ≠ 30 → s1.1 186 z = s.1 186 z) : simR s1 R I := by
  obtain ⟨p1, p2, p3⟩ := hR.2.2.1
  have o1 := q1.2.1
  exact simR_mk hR hI q1.1 (fun t ht => by rw [o1 188 (by decide) (by decide) (by decide)]; exact p2 t ht) (o1 189 (by decide) (by decide) (by decide)) (by rw [q1.2.2 3 (by decide) (by decide)]; exact p1) (by rw [q1.2.2 4 (by decide) (by decide)]; exact p3) (fun t _ => by rw [o1 187 (by decide) (by decide) (by decide)]) (by rw [o1 187 (by decide) (by decide) (by decide)]; exact hR.2.1)
theorem sp_rS {s1 : sT} {T : List Cond} {σ : Nat} {X : Cond} (h : rS s T σ X) (o1 : ∀ z, z ≠ 186 → z ≠ 206 → z ≠ 207 → s1.1 z = s.1 z) : rS s1 T σ X := by
  unfold rS tmO rowO at h ⊢
  rw [o1 210 (by decide) (by decide) (by decide), o1 211 (by decide) (by decide) (by decide), o1 212 (by decide) (by decide) (by decide), o1 213 (by decide) (by decide) (by decide), o1 214 (by decide) (by decide) (by decide)]
  exact h
theorem sp_tb {s1 : sT} {T : List Cond} (h : tb s T) (q1 : s1.2 = s.2 ∧ (∀ z, z ≠ 186 → z ≠ 206 → z ≠ 207 → s1.1 z = s.1 z) ∧ ∀ z, z ≠ 29 → z ≠ 30 → s1.1 186 z = s.1 186 z) : tb s1 T := by
  obtain ⟨hM, ⟨off, hN⟩, hs⟩ := h
  exact ⟨by rw [q1.1]; exact hM, ⟨off, rN_off hN (q1.2.2 12 (by decide) (by decide)) (q1.2.2 13 (by decide) (by decide)) (fun z a b => q1.2.1 z (by omega) (by omega) (by omega))⟩, hs⟩
theorem r_term {σ : Nat} {i w : Int32} {X0 X1 : Cond} (hR : simR s R I) (hI : ∀ k R', k < 2 → I k = some R' → rmB gD R') (hσ : σ < 2) (h0 : cn X0 ∧ z0 X0 ≤ 30 ∧ R.2.2.1 = sdOf X0) (h1 : cn X1 ∧ z0 X1 ≤ 30 ∧ R.2.2.2.1 = sdOf X1) : doR (yY L xs) (d + 10) 219 [.ref 186, .int (nI σ), .int i, .int w] s R I (some (tmAns (sel σ X0 X1) i w)) R I := by
  intro K kk
  have hsc := sel_cn (σ := σ) ⟨h0.1, h0.2.1⟩ ⟨h1.1, h1.2.1⟩
  refine b_219_0 (r_isSide (fun _ _ _ => ?_) (fun hn => absurd rfl (hn σ hσ)))
  rw [rt_some]
  refine b_219_4 ?_
  rw [if_pos (by decide)]
  refine ⟨so_186, r_lay (d := d) hR hI h0.1 h0.2.1 h1.1 h1.2.1 h0.2.2 h1.2.2 (fun s1 T g1 g2 g3 g4 g5 g6 g7 => ?_)⟩
  rw [rt_none]
  have hS := sel_rS hσ g5 g6
  generalize sel σ X0 X1 = X at hS kk hsc
  have h31 := rS_31 hS
  refine b_219_16 ⟨211, ⟨so_186, rm_186_35 g1.1⟩, 2, ⟨sa_211, inR_nI hσ (by decide)⟩, ?_⟩
  rw [nI_cl (by omega), hS.1.2.2.1]
  refine m_isIn0 (by omega) (fun t et ht => ?_) (fun q => ?_)
  · rw [rt_some]
    subst et
    have hy := List.getElem?_eq_getElem ht
    generalize (tms X)[t] = y at hy
    rw [tm_in h31 hy] at kk
    have z136 : z0 y ≤ 136 := tms_136 hsc.1 hsc.2 (List.mem_of_getElem? hy)
    obtain ⟨j, j1, j2⟩ := hS.1.2.2.2 t y hy
    refine b_219_29 ?_
    rw [if_pos (by decide)]
    refine m_isIn (fun w1 w2 => ?_) (fun q => ?_)
    · rw [rt_some]
      refine b_219_40 ?_
      rw [if_neg (by decide)]
      obtain ⟨x, hx3, ew⟩ : ∃ x, x < 3 ∧ w = nI (2 + x) := by
        have hn : ¬ w < 0 := fun q => w1 (by
          rw [Int32.lt_iff_toInt_lt] at q ⊢
          have e0 : (0 : Int32).toInt = 0 := rfl
          have e2 : (2 : Int32).toInt = 2 := rfl
          omega)
        obtain ⟨n, hn', rfl⟩ := i32_ex hn
        rw [nI_lit 2, nJ_lt hn' (by omega)] at w1
        rw [nI_lit 4, nJ_lt (by omega) hn'] at w2
        exact ⟨n - 2, by omega, by rw [show 2 + (n - 2) = n by omega]⟩
      have ew2 : w - 2 = nI x := by rw [ew, nI_lit 2, nJ_sub (by omega), show 2 + x - 2 = x by omega]
      rw [if_neg (by rw [ew, nI_lit 0, nJ_eq (by omega) (by omega)]; omega), if_neg (by rw [ew, nI_lit 1, nJ_eq (by omega) (by omega)]; omega), if_pos (by
        rw [ew]
        rcases (show x = 0 ∨ x = 1 ∨ x = 2 by omega) with rfl | rfl | rfl
        · exact Or.inl rfl
        · exact Or.inr (Or.inl rfl)
        · exact Or.inr (Or.inr rfl)), ew2, nI_cl (show x < 2147483648 by omega)] at kk
      refine ⟨212, ⟨so_186, rm_186_36 g1.1⟩, 186, ?_⟩
      rw [ew, nI_lit 3, nI_lit 31, nI_lit 2, nJ_mul, nJ_add, nJ_mul, nJ_add, nJ_sub (by omega), show 3 * (31 * σ + t) + (2 + x) - 2 = 3 * (31 * σ + t) + x by omega, nI_cl (show 3 * (31 * σ + t) + x < 2147483648 by omega), rS_set hS ht hx3]
      exact ⟨⟨sa_212, inR_nI (by omega) (by decide)⟩, kk s1 g7 (fun i hi => ⟨g4.2.1 i (by omega) (by omega), by rw [g4.1]⟩)⟩
    · rw [rt_some]
      refine b_219_40 ?_
      rw [if_pos rfl]
      refine ⟨210, ⟨so_186, rm_186_34 g1.1⟩, 62, ?_⟩
      rw [nI_lit 31, nJ_mul, nJ_add, nI_cl (show 31 * σ + t < 2147483648 by omega), j2]
      refine ⟨⟨sa_210, inR_nI (by omega) (by decide)⟩, so_186, tt_mono (r_spells (d := d) g1 g2 g3 j1 (fun s2 q1 q2 q3 => ?_)) (by omega) (fun _ _ q => q)⟩
      rw [rt_none]
      have hR2 := sp_simR g7 hI q1
      have fin := kk s2 hR2 (fun i hi => ⟨by rw [q1.2.1 i (by omega) (by omega) (by omega), g4.2.1 i (by omega) (by omega)], by rw [q1.1, g4.1]⟩)
      refine b_219_76 ?_
      by_cases w0 : w = 0
      · rw [if_neg (fun q => q w0)]
        rw [if_pos w0] at fin
        refine ⟨so_186, r_isFull (sp_tb g1 q1) g2 (sp_rS hS q1.2.1) hσ hy ?_⟩
        rw [rt_some]
        refine b_219_86 ?_
        cases hf : full y with
        | false => rw [if_pos (show bz false = 0 from rfl)]; rw [hf] at fin; exact b_219_117 fin
        | true => rw [if_neg (show ¬ bz true = 0 by decide)]; rw [hf] at fin; exact b_219_117 fin
      · rw [if_pos w0]
        rw [if_neg w0] at fin
        by_cases w1 : w = 1
        · rw [if_neg (fun q => q w1)]
          rw [if_pos w1] at fin
          refine ⟨so_186, ?_⟩
          rw [q2]
          exact b_219_117 fin
        · rw [if_pos w1]
          rw [if_neg w1, if_neg (fun h => by
            rcases q with q | q
            · rcases h with h | h | h <;> rw [h] at q <;> exact absurd q (by decide)
            · rcases h with h | h | h <;> rw [h] at q <;> exact absurd q (by decide))] at fin
          refine ⟨so_186, tt_mono (r_byteAt (d := d) (l := sp y 0) (by rw [q1.1]; exact g1.1) (show z0 y ≤ 600 by omega) q2 q3 ?_) (by omega) (fun _ _ q => q)⟩
          rw [rt_some]
          exact b_219_117 fin
  · rw [rt_some]
    refine b_219_29 ?_
    rw [if_neg (fun q => q rfl)]
    have : tmAns X i w = -1 := if_pos q
    rw [this] at kk
    exact kk s1 g7 (fun i hi => ⟨g4.2.1 i (by omega) (by omega), by rw [g4.1]⟩)
theorem r_term_no {a i w : Int32} (hR : simR s R I) (h : ∀ k, k < 2 → ¬ a = nI k) : doR (yY L xs) (d + 1) 219 [.ref 186, .int a, .int i, .int w] s R I (some (-1)) R I := by
  intro K kk
  refine b_219_0 (r_isSide (fun k hk e => absurd e (h k hk)) (fun _ => ?_))
  rw [rt_some]
  refine b_219_4 ?_
  rw [if_neg (fun q => q rfl)]
  exact kk s hR (fun _ _ => ⟨rfl, rfl⟩)
theorem pr_term (a i w : Int32) : pairOK (yY L xs) (Sim gD) (d + 10) 121 219 [.ref 0, .int a, .int i, .int w, .null] [.ref 186, .int a, .int i, .int w] true := by
  refine pair_of fun s R I hC hR hB hI => ?_
  rcases ex_or 2 a with ⟨σ, hσ, rfl⟩ | h
  · obtain ⟨X0, X1, h0, h1⟩ := both_X hB
    have s0 := sel_cn (σ := σ) ⟨h0.1, h0.2.1⟩ ⟨h1.1, h1.2.1⟩
    exact ⟨_, R, I, rfl, hB, hI, c_term (d := d + 7) hC hσ (sel_side hσ h0.2.2 h1.2.2) s0.1 s0.2, fun _ hR1 => r_term hR1 hI hσ h0 h1⟩
  · exact ⟨some (-1), R, I, rfl, hB, hI, c_term_no (d := d + 9) hC h, fun _ hR1 => r_term_no (d := d + 9) hR1 h⟩
end TS
