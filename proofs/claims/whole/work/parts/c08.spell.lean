/-! SPELLING, BY THE CLASS -/
def txO (v : Nat → Nat → Int32) (t : Nat) (o : List Int32) : Prop := v t 1 = nI o.length ∧ ∀ i c, o[i]? = some c → v (t + 1) i = c
/-- how deep a shape goes -/
def dth : Cond → Nat
  | .or a b => max (dth a + 1) (if isSum b = true then dth b else dth b + 1)
  | .and a b => max (dth a + 1) (if isProd b = true then dth b else dth b + 1)
  | .not a => dth a + 1
  | _ => 0
theorem dth_chl : ∀ {y : Cond}, cn y → ∀ c ∈ chl y, dth c + 1 ≤ dth y := by
  intro y
  induction y with
  | or a b _ ihb =>
    intro h c hc
    show dth c + 1 ≤ max (dth a + 1) (if isSum b = true then dth b else dth b + 1)
    rcases List.mem_cons.mp hc with rfl | hc
    · omega
    · cases e : isSum b with
      | true =>
        have hb : c ∈ chl b := by
          cases b with
          | or u w => exact hc
          | _ => cases e
        have := ihb h.2.2.2.1 c hb
        rw [if_pos rfl]; omega
      | false =>
        rw [sumL_one e h.2.2.2.2.1] at hc
        rw [List.mem_singleton.mp hc, if_neg (by decide)]
        omega
  | and a b _ ihb =>
    intro h c hc
    show dth c + 1 ≤ max (dth a + 1) (if isProd b = true then dth b else dth b + 1)
    rcases List.mem_cons.mp hc with rfl | hc
    · omega
    · cases e : isProd b with
      | true =>
        have hb : c ∈ chl b := by
          cases b with
          | and u w => exact hc
          | _ => cases e
        have := ihb h.2.2.2.2.1 c hb
        rw [if_pos rfl]; omega
      | false =>
        rw [prodL_one e h.2.2.2.2.2.2] at hc
        rw [List.mem_singleton.mp hc, if_neg (by decide)]
        omega
  | not a _ =>
    intro h c hc
    rw [List.mem_singleton.mp hc]
    exact Nat.le_refl _
  | _ => intro h c hc; cases hc
theorem dth_z : ∀ {y : Cond}, cn y → dth y + 1 ≤ z0 y := by
  intro y
  induction y with
  | or a b iha ihb =>
    intro h
    have h1 := iha h.1
    have h2 := ihb h.2.2.2.1
    rw [(z_or a b).1]
    show max (dth a + 1) (if isSum b = true then dth b else dth b + 1) + 1 ≤ _
    split <;> omega
  | and a b iha ihb =>
    intro h
    have h1 := iha h.1
    have h2 := ihb h.2.2.2.2.1
    have h3 := z01 h.1
    have h4 := z01 h.2.2.2.2.1
    rw [(z_and a b).1]
    show max (dth a + 1) (if isProd b = true then dth b else dth b + 1) + 1 ≤ _
    split <;> omega
  | not a iha =>
    intro h
    have h1 := iha h.1
    have h2 := z12 h.1
    have h3 := z01 h.1
    rw [(z_not a).1]
    show dth a + 1 + 1 ≤ _
    omega
  | count k => intro _; exact Nat.le_refl _
  | _ => intro h; exact h.elim
/-- summands with + between -/
def jS : List Cond → List Int32
  | [] => []
  | [x] => sp x 0
  | x :: y :: l => sp x 0 ++ 43 :: jS (y :: l)
def jP : List Cond → List Int32
  | [] => []
  | x :: l => sp x 1 ++ jP l
theorem jS_snoc : ∀ (l : List Cond) (c : Cond), jS (l ++ [c]) = if l = [] then sp c 0 else jS l ++ 43 :: sp c 0
  | [], c => rfl
  | [x], c => rfl
  | x :: y :: l, c => by
    have ih := jS_snoc (y :: l) c
    rw [if_neg (List.cons_ne_nil _ _)] at ih ⊢
    show sp x 0 ++ 43 :: jS (y :: l ++ [c]) = (sp x 0 ++ 43 :: jS (y :: l)) ++ 43 :: sp c 0
    rw [ih, List.append_assoc]; rfl
theorem jP_snoc : ∀ (l : List Cond) (c : Cond), jP (l ++ [c]) = jP l ++ sp c 1
  | [], c => by show sp c 1 ++ [] = _; rw [List.append_nil]; rfl
  | x :: l, c => by show sp x 1 ++ jP (l ++ [c]) = (sp x 1 ++ jP l) ++ _; rw [jP_snoc l c, List.append_assoc]
theorem jS_sumL : ∀ {y : Cond}, cn y → y ≠ S0 → jS (sumL y) = sp y 0 := by
  intro y
  induction y with
  | or a b _ ihb =>
    intro h _
    have := ihb h.2.2.2.1 h.2.2.2.2.1
    rw [sumL_or]
    cases hb : sumL b with
    | nil => exact absurd hb (sumL_ne h.2.2.2.2.1)
    | cons u l =>
      rw [hb] at this
      show sp a 0 ++ 43 :: jS (u :: l) = sp (.or a b) 0
      rw [this]; rfl
  | count k => intro _ h0; rw [sumL_one rfl h0]; rfl
  | not a _ => intro _ h0; rw [sumL_one rfl h0]; rfl
  | and a b _ _ => intro _ h0; rw [sumL_one rfl h0]; rfl
  | _ => intro h; exact h.elim
theorem jP_prodL : ∀ {y : Cond}, cn y → y ≠ S1 → jP (prodL y) = sp y 1 := by
  intro y
  induction y with
  | and a b _ ihb =>
    intro h _
    have := ihb h.2.2.2.2.1 h.2.2.2.2.2.2
    rw [prodL_and]
    show sp a 1 ++ jP (prodL b) = sp (.and a b) 1
    rw [this]; rfl
  | count k => intro _ h0; rw [prodL_one rfl h0]; show _ ++ [] = _; rw [List.append_nil]
  | not a _ => intro _ h0; rw [prodL_one rfl h0]; show _ ++ [] = _; rw [List.append_nil]
  | or a b _ _ => intro _ h0; rw [prodL_one rfl h0]; show _ ++ [] = _; rw [List.append_nil]
  | _ => intro h; exact h.elim
theorem jS_pre {l1 l2 : List Cond} : (jS l1).length ≤ (jS (l1 ++ l2)).length := by
  induction l2 generalizing l1 with
  | nil => rw [List.append_nil]; exact Nat.le_refl _
  | cons c l2 ih =>
    have h1 := ih (l1 := l1 ++ [c])
    rw [List.append_assoc] at h1
    have h2 : (jS l1).length ≤ (jS (l1 ++ [c])).length := by
      rw [jS_snoc]
      split
      · rename_i e; rw [e]; exact Nat.zero_le _
      · rw [List.length_append]; omega
    exact Nat.le_trans h2 h1
theorem jP_app (l1 l2 : List Cond) : jP (l1 ++ l2) = jP l1 ++ jP l2 := by
  induction l1 with
  | nil => rfl
  | cons x l ih => show sp x 1 ++ jP (l ++ l2) = (sp x 1 ++ jP l) ++ jP l2; rw [ih, List.append_assoc]
section SC
variable {L : Nat} {xs : Nat → Int32} {d : Nat} {s : sT} {K : Option Int32 → sT → Prop} {t cap : Nat} {T : List Cond} {p : Nat}
/-- only the text changes -/
def fX (s s' : sT) (t : Nat) : Prop := s'.2 = s.2 ∧ (∀ z, z ≠ t → z ≠ t + 1 → s'.1 z = s.1 z) ∧ ∀ i, i ≠ 1 → s'.1 t i = s.1 t i
theorem fX_refl (s : sT) (t : Nat) : fX s s t := ⟨rfl, fun _ _ _ => rfl, fun _ _ => rfl⟩
theorem fX_trans {s1 s2 : sT} (h1 : fX s s1 t) (h2 : fX s1 s2 t) : fX s s2 t := ⟨h2.1.trans h1.1, fun z a b => (h2.2.1 z a b).trans (h1.2.1 z a b), fun i a => (h2.2.2 i a).trans (h1.2.2 i a)⟩
theorem tc_fX {s1 : sT} (h : tc s T p) (hf : fX s s1 t) (ht : 8 < t) : tc s1 T p := tc_off h hf.1 (by rw [hf.2.1 1 (by omega) (by omega)]) (by rw [hf.2.1 1 (by omega) (by omega)]) (fun z _ _ => hf.2.1 z (by omega) (by omega))
theorem c_add {o : List Int32} {b : Int32} (hx : tX (yY L xs) s.2 t cap) (ho : txO s.1 t o) (hc : o.length < cap) (hK : ∀ s', txO s'.1 t (o ++ [b]) → fX s s' t → K none s') : tT (yY L xs) d 72 0 [.ref t, .int b] [] s K := by
  refine x_add hx ho.1 hc (hK _ ⟨?_, fun i c hi => ?_⟩ ⟨rfl, fun z a b => ?_, fun i hi => ?_⟩)
  · rw [pV_1, if_pos ⟨rfl, rfl⟩, List.length_append]; rfl
  · rw [pV_1, if_neg (by omega), pV_1]
    by_cases e : i < o.length
    · rw [List.getElem?_append_left e] at hi
      rw [if_neg (by omega)]; exact ho.2 i c hi
    · have hl := (List.getElem?_eq_some_iff.mp hi).1
      rw [List.length_append, List.length_singleton] at hl
      have : i = o.length := by omega
      subst this
      rw [List.getElem?_append_right (Nat.le_refl _), Nat.sub_self] at hi
      cases hi
      rw [if_pos ⟨rfl, rfl⟩]
  · funext u; rw [pV_1, if_neg (by omega), pV_1, if_neg (by omega)]
  · rw [pV_1, if_neg (by omega), pV_1, if_neg (by omega)]
/-- the bytes of a node, behind those of a text -/
theorem c_spellNode (ht : 8 < t) : ∀ (m : Nat) (s : sT) (K : Option Int32 → sT → Prop) (y : Cond) (k pl dep : Nat) (o : List Int32), tc s T p → tX (yY L xs) s.2 t cap → txO s.1 t o → T[k]? = some y → dth y ≤ m → dep + m ≤ 40 → pl < 3 → o.length + (sp y pl).length ≤ cap → (∀ s', txO s'.1 t (o ++ sp y pl) → fX s s' t → K none s') → tT (yY L xs) (d + 2 * m + 3) 94 0 [.ref 1, .int (nI k), .int (nI pl), .ref t, .int (nI dep), .null, .null] [] s K := by
  intro m
  induction m with
  | zero =>
    intro s K y k pl dep o h hx ho hk hd hdep hpl hc hK
    have cy := tc_cn h hk
    have hkl := tc_lt h hk
    have h0 : kC y = 0 := by
      cases y with
      | or a b => have : max (dth a + 1) (if isSum b = true then dth b else dth b + 1) ≤ 0 := hd; omega
      | and a b => have : max (dth a + 1) (if isProd b = true then dth b else dth b + 1) ≤ 0 := hd; omega
      | not a => have : dth a + 1 ≤ 0 := hd; omega
      | _ => rfl
    obtain ⟨a, ha, rfl⟩ := kC_0 cy h0
    have ek : k = a := (tc_eq h hk (tc_5 h a ha)).mpr rfl
    subst ek
    refine b_94_0 ?_
    rw [if_pos (show nI dep ≤ 40 from by rw [nI_lit 40, nJ_le (by omega) (by omega)]; omega)]
    refine ⟨so_1, c_kindOf h hk ?_⟩
    rw [rt_some]
    refine b_94_13 ?_
    rw [if_neg (show ¬ ¬ nI (kC (.count k)) = 0 from fun q => q rfl)]
    have hc' : o.length < cap := by have : o.length + 1 ≤ cap := hc; omega
    have fin : ∀ b, b = atB k → tT (yY L xs) (d + 2 * 0 + 3) 94 39 [.ref 1, .int (nI k), .int (nI pl), .ref t, .int (nI dep), .int (nI (kC (.count k))), .null] [.int b, .ref t] s K := by
      intro b hb
      subst hb
      refine b_94_39 ⟨hx.1, c_add hx ho hc' (fun s' q1 q2 => ?_)⟩
      rw [rt_none]
      exact b_94_42 (b_94_131 (hK s' q1 q2))
    rcases (show k = 0 ∨ k = 1 ∨ k = 2 ∨ k = 3 ∨ k = 4 by omega) with rfl | rfl | rfl | rfl | rfl
    · rw [if_neg (by decide)]; exact fin _ rfl
    · rw [if_neg (by decide)]; exact fin _ rfl
    · rw [if_pos (by decide)]; exact fin _ rfl
    · rw [if_pos (by decide)]; exact fin _ rfl
    · rw [if_pos (by decide)]; exact fin _ rfl
  | succ m ih =>
    intro s K y k pl dep o h hx ho hk hd hdep hpl hc hK
    by_cases hdm : dth y ≤ m
    · exact tt_mono (ih s K y k pl dep o h hx ho hk hdm (by omega) hpl hc hK) (by omega) (fun _ _ q => q)
    have cy := tc_cn h hk
    have hkl := tc_lt h hk
    have hkC := kC_le y
    refine b_94_0 ?_
    rw [if_pos (show nI dep ≤ 40 from by rw [nI_lit 40, nJ_le (by omega) (by omega)]; omega)]
    refine ⟨so_1, c_kindOf h hk ?_⟩
    rw [rt_some]
    refine b_94_13 ?_
    have hk0 : kC y ≠ 0 := fun e => by
      obtain ⟨a, _, rfl⟩ := kC_0 cy e
      exact hdm (Nat.zero_le _)
    rw [if_pos (show ¬ nI (kC y) = 0 from fun e => hk0 ((nJ_eq (b := 0) (by omega) (by decide)).mp e))]
    by_cases h3 : kC y = 3
    · rw [if_neg (by rw [h3]; exact fun q => q rfl)]
      obtain ⟨a, rfl⟩ := kC_3 h3
      have hca : (chl (.not a))[0]? = some a := rfl
      have hda : dth a ≤ m := by have : dth a + 1 ≤ m + 1 := hd; omega
      have esp : sp (.not a) pl = sp a 2 ++ [42] := rfl
      rw [esp] at hc hK
      rw [List.length_append, List.length_singleton] at hc
      refine ⟨so_1, c_childOf (i := 0) h hk hca (fun j hj => ?_)⟩
      rw [rt_some]
      refine b_94_58 ⟨so_1, ?_⟩
      rw [← nI_succ]
      refine tt_mono (ih s _ a j 2 (dep + 1) o h hx ho hj hda (by omega) (by decide) (by omega) (fun s1 q1 q2 => ?_)) (show d + 2 * m + 3 ≤ d + 2 * (m + 1) + 2 by omega) (fun _ _ q => q)
      rw [rt_none]
      refine b_94_67 ⟨hx.1, c_add (by rw [q2.1]; exact hx) q1 (by rw [List.length_append]; omega) (fun s2 q3 q4 => ?_)⟩
      rw [rt_none]
      refine b_94_73 (b_94_131 (hK s2 ?_ (fX_trans q2 q4)))
      rw [← List.append_assoc]; exact q3
    · rw [if_pos (show ¬ nI (kC y) = 3 from fun e => h3 ((nJ_eq (b := 3) (by omega) (by decide)).mp e))]
      have hzl : z0 y ≤ (sp y pl).length := by
        have h1 := z01 cy
        have h2 := z12 cy
        rcases (show pl = 0 ∨ pl = 1 ∨ pl = 2 by omega) with rfl | rfl | rfl
        · exact Nat.le_refl _
        · exact h1.2
        · exact Nat.le_trans h1.2 h2.1
      have hcl := chl_z cy
      have hc5 := hx.2.2.2
      -- the children
      have kids : ∀ (s1 : sT) (o1 : List Int32) (K1 : Option Int32 → sT → Prop), tc s1 T p → s1.2 = s.2 → txO s1.1 t o1 → o1.length + (if kC y = 1 then jS (chl y) else jP (chl y)).length ≤ cap → (∀ s', txO s'.1 t (o1 ++ if kC y = 1 then jS (chl y) else jP (chl y)) → fX s1 s' t → K1 none s') → tT (yY L xs) (d + 2 * m + 4) 95 0 [.ref 1, .int (nI k), .int (nI (kC y)), .ref t, .int (nI dep), .null] [] s1 K1 := by
        intro s1 o1 K1 g1 g2 g3 g4 gK
        have hx1 : tX (yY L xs) s1.2 t cap := by rw [g2]; exact hx
        -- one child
        have one : ∀ (i : Nat) (hi' : i < (chl y).length) (s2 : sT) (o2 : List Int32) (pl' : Nat), pl' = (if kC y = 1 then 0 else 1) → fX s1 s2 t → txO s2.1 t o2 → o2.length + (sp ((chl y)[i]) pl').length ≤ cap → (∀ s3, fX s1 s3 t → txO s3.1 t (o2 ++ sp ((chl y)[i]) pl') → tT (yY L xs) (d + 2 * m + 4) 95 3 [.ref 1, .int (nI k), .int (nI (kC y)), .ref t, .int (nI dep), .int (nI (i + 1))] [] s3 K1) → tT (yY L xs) (d + 2 * m + 4) 95 29 [.ref 1, .int (nI k), .int (nI (kC y)), .ref t, .int (nI dep), .int (nI i)] [] s2 K1 := by
          intro i hi' s2 o2 pl' hpl' f1 f2 f3 f4
          have hcm : (chl y)[i] ∈ chl y := List.getElem_mem _
          have hdc := dth_chl cy _ hcm
          have t2 := tc_fX g1 f1 ht
          refine b_95_29 ⟨so_1, c_childOf t2 hk (List.getElem?_eq_getElem hi') (fun j hj => ?_)⟩
          rw [rt_some]
          have go : tT (yY L xs) (d + 2 * m + 4) 95 47 [.ref 1, .int (nI k), .int (nI (kC y)), .ref t, .int (nI dep), .int (nI i)] [.int (nI pl'), .int (nI j), .ref 1] s2 K1 := by
            refine b_95_47 ⟨so_1, ?_⟩
            rw [← nI_succ]
            refine ih s2 _ _ j pl' (dep + 1) o2 t2 (by rw [f1.1]; exact hx1) f2 hj (by omega) (by omega) (by rw [hpl']; split <;> decide) f3 (fun s3 q1 q2 => ?_)
            rw [rt_none]
            refine b_95_55 ?_
            rw [← nI_succ]
            exact f4 s3 (fX_trans f1 q2) q1
          refine b_95_37 ?_
          by_cases h1 : kC y = 1
          · rw [if_neg (by rw [h1]; exact fun q => q rfl)]
            rw [if_pos h1] at hpl'
            subst hpl'
            exact go
          · rw [if_pos (show ¬ nI (kC y) = 1 from fun e => h1 ((nJ_eq (b := 1) (by omega) (by decide)).mp e))]
            rw [if_neg h1] at hpl'
            subst hpl'
            exact go
        by_cases h1 : kC y = 1
        · rw [if_pos h1] at g4 gK one
          have loop : ∀ q i (s2 : sT), q + i = (chl y).length → fX s1 s2 t → txO s2.1 t (o1 ++ jS ((chl y).take i)) → tT (yY L xs) (d + 2 * m + 4) 95 3 [.ref 1, .int (nI k), .int (nI (kC y)), .ref t, .int (nI dep), .int (nI i)] [] s2 K1 := by
            intro q
            induction q with
            | zero =>
              intro i s2 hi f1 f2
              refine b_95_3 ⟨so_1, c_childrenOf (tc_fX g1 f1 ht) hk ?_⟩
              rw [rt_some]
              refine b_95_10 ?_
              rw [if_pos (show nI (chl y).length ≤ nI i from by rw [show i = (chl y).length by omega]; exact Int32.le_refl _)]
              rw [show i = (chl y).length by omega, List.take_length] at f2
              exact gK s2 f2 f1
            | succ q ihq =>
              intro i s2 hi f1 f2
              have hi' : i < (chl y).length := by omega
              have et : (chl y).take (i + 1) = (chl y).take i ++ [(chl y)[i]] := List.take_succ_eq_append_getElem hi'
              have hpre := jS_pre (l1 := (chl y).take (i + 1)) (l2 := (chl y).drop (i + 1))
              rw [List.take_append_drop, et, jS_snoc] at hpre
              refine b_95_3 ⟨so_1, c_childrenOf (tc_fX g1 f1 ht) hk ?_⟩
              rw [rt_some]
              refine b_95_10 ?_
              rw [if_neg (by rw [nJ_le (by omega) (by omega)]; omega), if_neg (by rw [h1]; exact fun q => q rfl)]
              by_cases i0 : i = 0
              · rw [if_pos (show nI i ≤ 0 from by rw [i0]; exact Int32.le_refl _)]
                have hnil : (chl y).take i = [] := by rw [i0, List.take_zero]
                rw [if_pos hnil] at hpre
                rw [hnil] at f2
                refine one i hi' s2 (o1 ++ jS []) 0 rfl f1 f2 (by rw [List.length_append]; show o1.length + 0 + _ ≤ cap; omega) (fun s3 w1 w2 => ihq (i + 1) s3 (by omega) w1 ?_)
                rw [et, jS_snoc, if_pos hnil]
                show txO s3.1 t (o1 ++ sp ((chl y)[i]) 0)
                have : o1 ++ jS [] = o1 := List.append_nil _
                rw [this] at w2
                exact w2
              · rw [if_neg (show ¬ nI i ≤ 0 from by rw [nI_lit 0, nJ_le (by omega) (by omega)]; omega)]
                have hnn : (chl y).take i ≠ [] := fun e => by
                  have := congrArg List.length e
                  rw [List.length_take, List.length_nil] at this
                  omega
                rw [if_neg hnn, List.length_append, List.length_cons] at hpre
                refine ⟨hx1.1, c_add (by rw [f1.1]; exact hx1) f2 (by rw [List.length_append]; omega) (fun s3 w1 w2 => ?_)⟩
                rw [rt_none]
                refine one i hi' s3 _ 0 rfl (fX_trans f1 w2) w1 (by rw [List.length_append, List.length_append, List.length_singleton]; omega) (fun s4 w3 w4 => ihq (i + 1) s4 (by omega) w3 ?_)
                rw [et, jS_snoc, if_neg hnn]
                have e : o1 ++ jS ((chl y).take i) ++ [43] ++ sp ((chl y)[i]) 0 = o1 ++ (jS ((chl y).take i) ++ 43 :: sp ((chl y)[i]) 0) := by
                  rw [List.append_assoc, List.append_assoc]; rfl
                rw [e] at w4
                exact w4
          exact b_95_0 (loop _ 0 s1 rfl (fX_refl s1 t) (by rw [List.take_zero]; show txO s1.1 t (o1 ++ []); rw [List.append_nil]; exact g3))
        · rw [if_neg h1] at g4 gK one
          have loop : ∀ q i (s2 : sT), q + i = (chl y).length → fX s1 s2 t → txO s2.1 t (o1 ++ jP ((chl y).take i)) → tT (yY L xs) (d + 2 * m + 4) 95 3 [.ref 1, .int (nI k), .int (nI (kC y)), .ref t, .int (nI dep), .int (nI i)] [] s2 K1 := by
            intro q
            induction q with
            | zero =>
              intro i s2 hi f1 f2
              refine b_95_3 ⟨so_1, c_childrenOf (tc_fX g1 f1 ht) hk ?_⟩
              rw [rt_some]
              refine b_95_10 ?_
              rw [if_pos (show nI (chl y).length ≤ nI i from by rw [show i = (chl y).length by omega]; exact Int32.le_refl _)]
              rw [show i = (chl y).length by omega, List.take_length] at f2
              exact gK s2 f2 f1
            | succ q ihq =>
              intro i s2 hi f1 f2
              have hi' : i < (chl y).length := by omega
              have et : (chl y).take (i + 1) = (chl y).take i ++ [(chl y)[i]] := List.take_succ_eq_append_getElem hi'
              have hsum : (jP (chl y)).length = (jP ((chl y).take i)).length + (sp ((chl y)[i]) 1).length + (jP ((chl y).drop (i + 1))).length := by
                have e : chl y = (chl y).take i ++ [(chl y)[i]] ++ (chl y).drop (i + 1) := by rw [← et, List.take_append_drop]
                have e2 := congrArg jP e
                rw [jP_app, jP_snoc] at e2
                have e3 := congrArg List.length e2
                rw [List.length_append, List.length_append] at e3
                exact e3
              refine b_95_3 ⟨so_1, c_childrenOf (tc_fX g1 f1 ht) hk ?_⟩
              rw [rt_some]
              refine b_95_10 ?_
              rw [if_neg (by rw [nJ_le (by omega) (by omega)]; omega), if_pos (show ¬ nI (kC y) = 1 from fun e => h1 ((nJ_eq (b := 1) (by omega) (by decide)).mp e))]
              refine one i hi' s2 _ 1 rfl f1 f2 (by rw [List.length_append]; omega) (fun s3 w1 w2 => ihq (i + 1) s3 (by omega) w1 ?_)
              rw [et, jP_snoc, ← List.append_assoc]
              exact w2
          exact b_95_0 (loop _ 0 s1 rfl (fX_refl s1 t) (by rw [List.take_zero]; show txO s1.1 t (o1 ++ []); rw [List.append_nil]; exact g3))
      -- without brackets, with brackets
      have kJ : (if kC y = 1 then jS (chl y) else jP (chl y)) = if kC y = 1 then sp y 0 else sp y 1 := by
        by_cases h1 : kC y = 1
        · rw [if_pos h1, if_pos h1, ← (kC_1 h1).1]
          obtain ⟨a, b, rfl⟩ := (kC_1 h1).2
          exact jS_sumL cy (by intro e; cases e)
        · have h2 : kC y = 2 := by omega
          rw [if_neg h1, if_neg h1, ← (kC_2 h2).1]
          obtain ⟨a, b, rfl⟩ := (kC_2 h2).2
          exact jP_prodL cy (by intro e; cases e)
      rw [kJ] at kids
      have plain : sp y pl = (if kC y = 1 then sp y 0 else sp y 1) → tT (yY L xs) (d + 2 * (m + 1) + 3) 94 96 [.ref 1, .int (nI k), .int (nI pl), .ref t, .int (nI dep), .int (nI (kC y)), .null] [] s K := by
        intro e
        rw [e] at hc hK
        refine b_94_96 (b_94_97 ?_)
        rw [if_pos rfl]
        refine b_94_110 ⟨so_1, kids s o _ h rfl ho hc (fun s1 q1 q2 => ?_)⟩
        rw [rt_none]
        refine b_94_120 ?_
        rw [if_pos rfl]
        exact b_94_131 (hK s1 q1 q2)
      have brack : sp y pl = 40 :: ((if kC y = 1 then sp y 0 else sp y 1) ++ [41]) → tT (yY L xs) (d + 2 * (m + 1) + 3) 94 92 [.ref 1, .int (nI k), .int (nI pl), .ref t, .int (nI dep), .int (nI (kC y)), .null] [] s K := by
        intro e
        rw [e] at hc hK
        rw [List.length_cons, List.length_append, List.length_singleton] at hc
        refine b_94_92 (b_94_97 ?_)
        rw [if_neg (by decide)]
        refine ⟨hx.1, c_add hx ho (by omega) (fun s1 q1 q2 => ?_)⟩
        rw [rt_none]
        refine b_94_110 ⟨so_1, kids s1 (o ++ [40]) _ (tc_fX h q2 ht) q2.1 q1 (by rw [List.length_append, List.length_singleton]; omega) (fun s2 q3 q4 => ?_)⟩
        rw [rt_none]
        refine b_94_120 ?_
        rw [if_neg (by decide)]
        refine ⟨hx.1, c_add (by rw [q4.1, q2.1]; exact hx) q3 (by rw [List.length_append, List.length_append, List.length_singleton]; omega) (fun s3 q5 q6 => ?_)⟩
        rw [rt_none]
        refine b_94_131 (hK s3 ?_ (fX_trans q2 (fX_trans q4 q6)))
        have e2 : o ++ [40] ++ (if kC y = 1 then sp y 0 else sp y 1) ++ [41] = o ++ 40 :: ((if kC y = 1 then sp y 0 else sp y 1) ++ [41]) := by
          rw [List.append_assoc, List.append_assoc]; rfl
        rw [← e2]; exact q5
      by_cases p2 : pl = 2
      · rw [if_pos (show nI pl = 2 by rw [p2]; rfl)]
        refine brack ?_
        subst p2
        by_cases h1 : kC y = 1
        · rw [if_pos h1]
          obtain ⟨a, b, rfl⟩ := (kC_1 h1).2
          rfl
        · rw [if_neg h1]
          obtain ⟨a, b, rfl⟩ := (kC_2 (show kC y = 2 by omega)).2
          rfl
      · rw [if_neg (show ¬ nI pl = 2 from fun e => p2 ((nJ_eq (b := 2) (by omega) (by decide)).mp e))]
        by_cases h1 : kC y = 1
        · rw [if_neg (by rw [h1]; exact fun q => q rfl)]
          obtain ⟨a, b, rfl⟩ := (kC_1 h1).2
          by_cases p1 : pl = 1
          · rw [if_neg (show ¬ ¬ nI pl = 1 from fun q => q (by rw [p1]; rfl))]
            subst p1
            exact brack rfl
          · rw [if_pos (show ¬ nI pl = 1 from fun e => p1 ((nJ_eq (b := 1) (by omega) (by decide)).mp e))]
            have p0 : pl = 0 := by omega
            subst p0
            exact plain rfl
        · rw [if_pos (show ¬ nI (kC y) = 1 from fun e => h1 ((nJ_eq (b := 1) (by omega) (by decide)).mp e))]
          obtain ⟨a, b, rfl⟩ := (kC_2 (show kC y = 2 by omega)).2
          refine plain ?_
          show (if pl = 2 then _ else sp a 1 ++ sp b 1) = _
          rw [if_neg p2]; rfl
theorem c_spell (ht : 8 < t) {y : Cond} {k pl : Nat} {o : List Int32} (h : tc s T p) (hx : tX (yY L xs) s.2 t cap) (ho : txO s.1 t o) (hk : T[k]? = some y) (hd : dth y ≤ 40) (hpl : pl < 3) (hc : o.length + (sp y pl).length ≤ cap) (hK : ∀ s', txO s'.1 t (o ++ sp y pl) → fX s s' t → K none s') : tT (yY L xs) (d + 84) 93 0 [.ref 1, .int (nI k), .int (nI pl), .ref t] [] s K := by
  refine b_93_0 ⟨so_1, c_spellNode (d := d) ht 40 s _ y k pl 0 o h hx ho hk hd (by omega) hpl hc (fun s' q1 q2 => ?_)⟩
  rw [rt_none]
  exact b_93_8 (hK s' q1 q2)
end SC
