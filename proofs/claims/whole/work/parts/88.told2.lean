section RU
variable {L : Nat} {xs : Nat → Int32} {d : Nat} {s : sT} {K : Option Int32 → sT → Prop}
theorem r_starB {T : List Cond} {k : Nat} {x : Cond} (hT : tb s T) (hl : T.length < 1500) (hp : pn T + 150 ≤ 24000) (hx : T[k]? = some x) (hz : z1 (sStar x) ≤ 150)
    (h : ∀ s' T' j, tb s' T' → gw s s' T T' → ad T (sStar x) T' → T'[j]? = some (sStar x) → K (some (nI j)) s') : tT (yY L xs) (d + 3) 160 0 [.ref 186, .int (nI k)] [] s K := by
  have hk := (List.getElem?_eq_some_iff.mp hx).1
  have hM := hT.1
  have cx := tb_cn hT (List.mem_of_getElem? hx)
  obtain ⟨off, hN⟩ := hT.2.1
  have hnd := (hN.2.2.2.2.2 k x hx).1
  have hkd := kd_le x
  refine b_160_0 ⟨190, ⟨so_186, rm_186_5 hM⟩, 1500, ⟨sa_190, inR_nI (by omega) (by decide)⟩, ?_⟩
  rw [nI_cl (show k < 2147483648 by omega), hnd.1]
  by_cases h2 : 2 ≤ kd x
  · rw [if_pos (by rw [nI_lit 2, nJ_le (by omega) (by omega)]; exact h2)]
    have n01 : ¬ (x = S0 ∨ x = S1) := by
      rintro (e | e) <;> rw [e] at h2 <;> exact absurd h2 (by decide)
    refine ⟨190, ⟨so_186, rm_186_5 hM⟩, 1500, ⟨sa_190, inR_nI (by omega) (by decide)⟩, ?_⟩
    rw [hnd.1]
    by_cases h5 : kd x = 5
    · rw [if_neg (by rw [h5]; decide)]
      have es : sStar x = x := by
        unfold sStar
        rw [if_neg n01, if_pos ((kd_5 cx).mp h5)]
      rw [es] at h
      exact h s T k hT (gw_refl s T) (Or.inl ⟨rfl, List.mem_of_getElem? hx⟩) hx
    · rw [if_pos (by rw [nI_lit 5, nJ_eq (by omega) (by omega)]; exact h5)]
      have hst : isStar x = false := by
        cases e : isStar x with
        | false => rfl
        | true => exact absurd ((kd_5 cx).mpr e) h5
      have es : sStar x = .not x := by
        unfold sStar
        rw [if_neg n01, if_neg (by rw [hst]; decide)]
      rw [es] at h hz
      refine ⟨200, ⟨so_186, rm_186_18 hM⟩, 400, ⟨sa_200, inR_nI (k := 0) (by decide) (by decide)⟩, so_186, ?_⟩
      have hi0 : ∀ i, i < [k].length → i = 0 := fun i hi => Nat.lt_one_iff.mp hi
      refine r_keptB (y := .not x) (js := [k]) (T := T) (tb_put hT ⟨by omega, by omega⟩) hl hp ⟨cx, hst, fun e => n01 (Or.inl e), fun e => n01 (Or.inr e)⟩ (show 3 ≤ 5 by decide) hz (fun i hi => ?_) ⟨rfl, fun i hi => ?_⟩ (fun s' T' j q1 q2 q3 q4 => ?_)
      · rw [hi0 i hi, pV_1, if_pos ⟨rfl, rfl⟩]; rfl
      · rw [hi0 i hi]; exact hx
      · rw [rt_some]
        exact b_160_37 (h s' T' j q1 (gw_trans gw_row q2) q3 q4)
  · rw [if_neg (by rw [nI_lit 2, nJ_le (by omega) (by omega)]; exact h2)]
    have h01 := kd_01 cx (by omega)
    have es : sStar x = S1 := by unfold sStar; rw [if_pos h01]
    rw [es] at h
    exact h s T 1 hT (gw_refl s T) (Or.inl ⟨rfl, List.mem_of_getElem? (tbA5 hT 1 (by decide))⟩) (tbA5 hT 1 (by decide))
theorem abc_of {c : Int32} (h1 : ¬ c < 97) (h2 : ¬ 99 < c) : c = 97 ∨ c = 98 ∨ c = 99 := by
  rw [Int32.lt_iff_toInt_lt] at h1 h2
  have e1 : (97 : Int32).toInt = 97 := rfl
  have e2 : (98 : Int32).toInt = 98 := rfl
  have e3 : (99 : Int32).toInt = 99 := rfl
  rcases (show c.toInt = 97 ∨ c.toInt = 98 ∨ c.toInt = 99 by omega) with e | e | e
  · exact Or.inl (Int32.toInt_inj.mp e)
  · exact Or.inr (Or.inl (Int32.toInt_inj.mp e))
  · exact Or.inr (Or.inr (Int32.toInt_inj.mp e))
theorem atK_none {c : Int32} (h : atK c = none) : c ≠ 48 ∧ c ≠ 49 ∧ ¬ (c = 97 ∨ c = 98 ∨ c = 99) := by
  refine ⟨?_, ?_, ?_⟩
  · intro e; rw [e] at h; cases h
  · intro e; rw [e] at h; cases h
  · rintro (e | e | e) <;> rw [e] at h <;> cases h
theorem wBl_len : ∀ bl : List (List Cond × List Cond), bl.length ≤ wBl bl
  | [] => Nat.le_refl _
  | q :: bl => by
    have := wBl_len bl
    show bl.length + 1 ≤ wL q.1 + wP q.2 + 1 + wBl bl
    omega
theorem rI_len {k : Nat} {ss ps : List Cond} {bl : List (List Cond × List Cond)} {m : Bool} (h : rI k ss ps bl m) : 2 * ss.length + ps.length + bl.length ≤ k ∧ (ps.flatMap prodL).length ≤ k ∧ (ss.flatMap sumL).length ≤ k := by
  have h1 := wP_flat h.2.1
  have h2 := wL_flat h.1
  have h3 := wBl_len bl
  have := h.2.2.2.2
  omega
theorem rd_cons {c : Int32} {r : List Int32} {k : Nat} {ss ps : List Cond} {bl : List (List Cond × List Cond)} {mu : Bool} : rd (c :: r) k ss ps bl mu = if c = 32 then rd r (k + 1) ss ps bl mu else match atK c with
    | some a => rd r (k + 1) ss (ps ++ [.count a]) bl false
    | none => if c = 40 then rd r (k + 1) [] [] ((ss, ps) :: bl) true else if mu = true then .inl k else if c = 42 then rd r (k + 1) ss (starL ps) bl false else if c = 43 then rd r (k + 1) (ss ++ [sProd ps]) [] bl true else if c = 41 then (match bl with | [] => .inl k | q :: bl => rd r (k + 1) q.1 (q.2 ++ [sSum (ss ++ [sProd ps])]) bl false) else .inl k := rfl
theorem rd_none {c : Int32} {r : List Int32} {k : Nat} {ss ps : List Cond} {bl : List (List Cond × List Cond)} {mu : Bool} (h32 : c ≠ 32) (hat : atK c = none) : rd (c :: r) k ss ps bl mu = if c = 40 then rd r (k + 1) [] [] ((ss, ps) :: bl) true else if mu = true then .inl k else if c = 42 then rd r (k + 1) ss (starL ps) bl false else if c = 43 then rd r (k + 1) (ss ++ [sProd ps]) [] bl true else if c = 41 then (match bl with | [] => .inl k | q :: bl => rd r (k + 1) q.1 (q.2 ++ [sSum (ss ++ [sProd ps])]) bl false) else .inl k := by
  rw [rd_cons, if_neg h32, hat]
theorem r_told {T : List Cond} {txt : List Int32} {r1 a m : Nat} (hT : tb s T) (hl : T.length + 2 * txt.length + 2 < 1500) (hp : pn T + 64 * txt.length + 300 ≤ 24000) (hn : txt.length ≤ 30) (hA : isA (yY L xs) r1 0 m) (hm : a + txt.length ≤ m) (hm2 : m < 100000) (hr1 : r1 = 187 ∨ r1 = 188) (hv : ∀ i c, txt[i]? = some c → s.1 r1 (a + i) = c)
    (h1 : ∀ f s' T', rd txt 0 [] [] [] true = .inl f → f ≤ txt.length → tb s' T' → gt s s' T T' → T'.length ≤ T.length + 2 * txt.length + 2 → pn T' ≤ pn T + 64 * txt.length + 64 → s'.1 186 26 = nI f → K (some 0) s')
    (h2 : ∀ x s' T' j, rd txt 0 [] [] [] true = .inr x → cn x → z0 x ≤ txt.length → tb s' T' → gt s s' T T' → T'.length ≤ T.length + 2 * txt.length + 2 → pn T' ≤ pn T + 64 * txt.length + 64 → s'.1 186 26 = -1 → T'[j]? = some x → K (some (nI j)) s') :
    tT (yY L xs) (d + 6) 166 0 [.ref 186, .ref r1, .int (nI a), .int (nI txt.length), .null, .null, .null, .null, .null] [] s K := by
  have hsz := rd_size txt 0 [] [] [] true rI_0
  have bad : ∀ (f : Nat) (s1 : sT) (T1 : List Cond), rd txt 0 [] [] [] true = .inl f → tb s1 T1 → gt s s1 T T1 → T1.length ≤ T.length + 2 * txt.length → pn T1 ≤ pn T + 64 * txt.length → K (some 0) (pV s1 186 26 (nI f)) := by
    intro f s1 T1 g1 g2 g3 g4 g5
    have hf := hsz.2 f g1
    exact h1 f _ T1 g1 (by omega) (tb_put g2 ⟨by omega, by omega⟩) (gt_put g3 (by omega)) (by omega) (by omega) (by rw [pV_1, if_pos ⟨rfl, rfl⟩])
  have loop : ∀ (r : List Int32) (k : Nat) (s1 : sT) (T1 ss ps : List Cond) (bl : List (List Cond × List Cond)) (mu : Bool) (u6 u7 u8 : Value), k + r.length = txt.length → (∀ i c, r[i]? = some c → s.1 r1 (a + (k + i)) = c) → rI k ss ps bl mu → tb s1 T1 → gt s s1 T T1 → T1.length ≤ T.length + 2 * k → pn T1 ≤ pn T + 64 * k → s1.1 186 25 = nI bl.length → lvO s1.1 T1 bl.length (ss, ps) → blO s1.1 T1 bl → s1.1 186 26 = -1 → rd txt 0 [] [] [] true = rd r k ss ps bl mu → tT (yY L xs) (d + 6) 166 20 [.ref 186, .ref r1, .int (nI a), .int (nI txt.length), .int (bz mu), .int (nI k), u6, u7, u8] [] s1 K := by
    intro r
    induction r with
    | nil =>
      intro k s1 T1 ss ps bl mu u6 u7 u8 hk _ hI g1 g2 g3 g4 g5 g6 g7 g8 hrd
      have e : k = txt.length := by rw [List.length_nil] at hk; omega
      subst e
      have hlen := rI_len hI
      refine b_166_20 ?_
      rw [if_pos (Int32.le_refl _)]
      have er : rd [] txt.length ss ps bl mu = if mu = true ∨ bl ≠ [] then .inl txt.length else .inr (sSum (ss ++ [sProd ps])) := by unfold rd; rfl
      rw [er] at hrd
      cases mu with
      | true =>
        rw [if_pos (Or.inl rfl)] at hrd
        rw [if_pos (show ¬ bz true = 0 by decide)]
        exact b_166_292 ⟨so_186, bad _ s1 T1 hrd g1 g2 g3 g4⟩
      | false =>
        rw [if_neg (show ¬ ¬ bz false = 0 by decide)]
        refine ⟨so_186, ?_⟩
        rw [g5]
        cases bl with
        | cons q bl =>
          rw [if_pos (Or.inr (List.cons_ne_nil _ _))] at hrd
          rw [if_neg (show ¬ nI (q :: bl).length ≤ 0 by
            have : (q :: bl).length = bl.length + 1 := rfl
            rw [nI_lit 0, nJ_le (by omega) (by omega)]; omega)]
          exact b_166_292 ⟨so_186, bad _ s1 T1 hrd g1 g2 g3 g4⟩
        | nil =>
          rw [if_neg (show ¬ (false = true ∨ [] ≠ []) from fun q => q.elim (by decide) (fun q => q rfl))] at hrd
          rw [if_pos (show nI ([] : List (List Cond × List Cond)).length ≤ 0 by decide)]
          have hs := rI_sum hI
          have hpr := rI_prod hI
          have hw := hI.2.2.2.2
          have h12 := z12 hs.1
          have hpz := sh_z hpr.1
          have hpz1 := z01 hpr.1
          refine ⟨so_186, r_endsSum (k := 0) g1 (by omega) (by omega) g5 (by decide) g6 (by omega) (by omega) (by omega) (by omega) (by omega) ?_ (by omega) (fun s' T' T'' j q1 q2 q3 q4 q5 q6 q7 q8 q9 q10 => ?_)⟩
          · rw [List.flatMap_append, List.length_append, List.flatMap_cons, List.flatMap_nil, List.append_nil]
            omega
          · rw [rt_some]
            have l1 := ad_len q8
            have l2 := ad_len q9
            have p1 := ad_pn q8
            have p2 := ad_pn q9
            have n1 := nch_z hpr.1
            have n2 := nch_z hs.1
            exact b_166_303 (h2 _ s' T'' j hrd hs.1 (by omega) q1 (gt_trans g2 q2) (by omega) (by omega) (by rw [q7]; exact g8) q10)
    | cons c r ih =>
      intro k s1 T1 ss ps bl mu u6 u7 u8 hk hc hI g1 g2 g3 g4 g5 g6 g7 g8 hrd
      have hlen := rI_len hI
      rw [List.length_cons] at hk
      have hc0 : s1.1 r1 (a + k) = c := by
        rw [g2.1.2.1 r1 (by omega) (by omega)]
        exact hc 0 c rfl
      have hcr : ∀ i c', r[i]? = some c' → s.1 r1 (a + (k + 1 + i)) = c' := fun i c' hi => by
        have := hc (i + 1) c' (by rw [List.getElem?_cons_succ]; exact hi)
        rw [← this, show k + 1 + i = k + (i + 1) by omega]
      have hM1 := g1.1
      have hin : inR (nI (a + k)) m := inR_nI (by omega) (by omega)
      -- on to the next byte
      have nxt : ∀ (s2 : sT) (T2 ss' ps' : List Cond) (bl' : List (List Cond × List Cond)) (mu' : Bool) (w7 w8 : Value), rI (k + 1) ss' ps' bl' mu' → tb s2 T2 → gt s s2 T T2 → T2.length ≤ T.length + 2 * (k + 1) → pn T2 ≤ pn T + 64 * (k + 1) → s2.1 186 25 = nI bl'.length → lvO s2.1 T2 bl'.length (ss', ps') → blO s2.1 T2 bl' → s2.1 186 26 = -1 → rd (c :: r) k ss ps bl mu = rd r (k + 1) ss' ps' bl' mu' → tT (yY L xs) (d + 6) 166 274 [.ref 186, .ref r1, .int (nI a), .int (nI txt.length), .int (bz mu'), .int (nI k), .int c, w7, w8] [] s2 K := by
        intro s2 T2 ss' ps' bl' mu' w7 w8 i1 i2 i3 i4 i5 i6 i7 i8 i9 i10
        refine b_166_274 ?_
        have := ih (k + 1) s2 T2 ss' ps' bl' mu' (.int c) w7 w8 (by omega) hcr i1 i2 i3 i4 i5 i6 i7 i8 i9 (hrd.trans i10)
        rw [nI_succ] at this
        exact this
      have start : (c = 32 → tT (yY L xs) (d + 6) 166 274 [.ref 186, .ref r1, .int (nI a), .int (nI txt.length), .int (bz mu), .int (nI k), .int c, u7, u8] [] s1 K) → (c ≠ 32 → (∃ a0, atK c = some a0) → tT (yY L xs) (d + 6) 166 75 [.ref 186, .ref r1, .int (nI a), .int (nI txt.length), .int (bz mu), .int (nI k), .int c, u7, u8] [.int 1] s1 K) → (c ≠ 32 → atK c = none → tT (yY L xs) (d + 6) 166 75 [.ref 186, .ref r1, .int (nI a), .int (nI txt.length), .int (bz mu), .int (nI k), .int c, u7, u8] [.int 0] s1 K) → tT (yY L xs) (d + 6) 166 20 [.ref 186, .ref r1, .int (nI a), .int (nI txt.length), .int (bz mu), .int (nI k), u6, u7, u8] [] s1 K := by
        intro w1 w2 w3
        refine b_166_20 ?_
        rw [if_neg (by rw [nJ_le (by omega) (by omega)]; omega), nJ_add, nI_cl (show a + k < 2147483648 by omega), hc0]
        refine ⟨m, ⟨hA, hin⟩, ?_⟩
        by_cases e32 : c = 32
        · rw [if_neg (fun q => q e32)]; exact w1 e32
        · rw [if_pos e32]
          by_cases e48 : c = 48
          · rw [if_pos e48]; exact b_166_70 (w2 e32 ⟨0, by rw [e48]; rfl⟩)
          · rw [if_neg e48]
            by_cases e49 : c = 49
            · rw [if_pos e49]; exact b_166_70 (w2 e32 ⟨1, by rw [e49]; rfl⟩)
            · rw [if_neg e49]
              refine m_isIn (fun q1 q2 => ?_) (fun q => ?_)
              · rw [rt_some]
                refine b_166_67 ?_
                rw [if_neg (by decide)]
                refine b_166_70 (w2 e32 ?_)
                rcases abc_of q1 q2 with e | e | e
                · exact ⟨2, by rw [e]; rfl⟩
                · exact ⟨3, by rw [e]; rfl⟩
                · exact ⟨4, by rw [e]; rfl⟩
              · rw [rt_some]
                refine b_166_67 ?_
                rw [if_pos rfl]
                refine w3 e32 ?_
                unfold atK
                rw [if_neg e48, if_neg e49, if_neg (fun e => by rw [e] at q; exact q.elim (by decide) (by decide)), if_neg (fun e => by rw [e] at q; exact q.elim (by decide) (by decide)), if_neg (fun e => by rw [e] at q; exact q.elim (by decide) (by decide))]
      refine start (fun e => ?_) (fun e32 he => ?_) (fun e32 hat => ?_)
      · have er : rd (c :: r) k ss ps bl mu = rd r (k + 1) ss ps bl mu := by rw [e]; rfl
        exact nxt s1 T1 ss ps bl mu _ _ (rI_blank hI) g1 g2 (by omega) (by omega) g5 g6 g7 g8 er
      · obtain ⟨a0, ha0⟩ := he
        obtain ⟨hlt, hca⟩ := atK_lt ha0
        have er : rd (c :: r) k ss ps bl mu = rd r (k + 1) ss (ps ++ [.count a0]) bl false := by rw [hca]; exact rd_at hlt
        have fac : tT (yY L xs) (d + 6) 166 112 [.ref 186, .ref r1, .int (nI a), .int (nI txt.length), .int (bz mu), .int (nI k), .int c, .int 1, u8] [.int (nI a0), .ref 186] s1 K := by
          refine b_166_112 ⟨so_186, r_addsFactor (k := bl.length) (n := ps.length) hM1 g5 (by omega) g6.2.2.2.1 (by omega) (by omega) ?_⟩
          rw [rt_none]
          refine b_166_115 (nxt _ T1 ss (ps ++ [.count a0]) bl false _ _ (rI_at hlt hI) (tb_put (tb_put g1 ⟨by omega, by omega⟩) ⟨by omega, by omega⟩) (gt_put (gt_put g2 (by omega)) (by omega)) (by omega) (by omega) ?_ ?_ ?_ ?_ er)
          · rw [pV_1, if_neg (by omega), pV_1, if_neg (by omega)]; exact g5
          · refine lvO_fac g6 (by omega) (tbA5 g1 a0 hlt) ?_ ?_ (fun t ht => ?_) (fun t ht => ?_)
            · rw [pV_1, if_neg (by omega), pV_1, if_neg (by omega)]
            · rw [pV_1, if_pos ⟨rfl, rfl⟩]
            · rw [pV_1, if_neg (by omega), pV_1, if_neg (by omega)]
            · rw [pV_1, if_neg (by omega), pV_1]
              by_cases e : t = ps.length
              · rw [if_pos ⟨rfl, by omega⟩, if_pos e]
              · rw [if_neg (by omega), if_neg e]
          · refine blO_off ⟨[], (List.append_nil _).symm⟩ g7 (fun i hi => ⟨?_, ?_⟩) (fun t ht => ⟨?_, ?_⟩)
            · rw [pV_1, if_neg (by omega), pV_1, if_neg (by omega)]
            · rw [pV_1, if_neg (by omega), pV_1, if_neg (by omega)]
            · rw [pV_1, if_neg (by omega), pV_1, if_neg (by omega)]
            · rw [pV_1, if_neg (by omega), pV_1, if_neg (by omega)]
          · rw [pV_1, if_neg (by omega), pV_1, if_neg (by omega)]; exact g8
        refine b_166_75 ?_
        rw [if_neg (by decide)]
        rw [hca] at fac ⊢
        rcases (show a0 = 0 ∨ a0 = 1 ∨ a0 = 2 ∨ a0 = 3 ∨ a0 = 4 by omega) with rfl | rfl | rfl | rfl | rfl
        · rw [if_neg (by decide)]; exact fac
        · rw [if_pos (by decide), if_neg (by decide)]; exact fac
        · rw [if_pos (by decide), if_pos (by decide)]; exact fac
        · rw [if_pos (by decide), if_pos (by decide)]; exact fac
        · rw [if_pos (by decide), if_pos (by decide)]; exact fac
      · have hno := atK_none hat
        have er0 := rd_none (r := r) (k := k) (ss := ss) (ps := ps) (bl := bl) (mu := mu) e32 hat
        refine b_166_75 ?_
        rw [if_pos rfl]
        by_cases e40 : c = 40
        · rw [if_neg (fun q => q e40)]
          rw [if_pos e40] at er0
          refine ⟨so_186, so_186, so_186, ?_⟩
          rw [g5, ← nI_succ]
          refine r_opens (k := bl.length + 1) hM1 (by rw [pV_1, if_pos ⟨rfl, rfl⟩]) (by omega) ?_
          rw [rt_none]
          refine b_166_142 (nxt _ T1 [] [] ((ss, ps) :: bl) true _ _ (rI_open hI) (tb_put (tb_put (tb_put g1 ⟨by omega, by omega⟩) ⟨by omega, by omega⟩) ⟨by omega, by omega⟩) (gt_put (gt_put (gt_put g2 (by omega)) (by omega)) (by omega)) (by omega) (by omega) ?_ ?_ ?_ ?_ er0)
          · rw [pV_1, if_neg (by omega), pV_1, if_neg (by omega), pV_1, if_pos ⟨rfl, rfl⟩]; rfl
          · refine ⟨Nat.zero_le _, Nat.zero_le _, ?_, ?_, (fun t c hc => by cases hc), (fun t c hc => by cases hc)⟩
            · rw [pV_1, if_neg (by omega), pV_1, if_pos ⟨rfl, rfl⟩]; rfl
            · rw [pV_1, if_pos ⟨rfl, rfl⟩]; rfl
          · have old : ∀ c i, c ≠ 186 → (c = 204 ∨ c = 205 → i ≤ bl.length) → (pV (pV (pV s1 186 25 (nI (bl.length + 1))) 204 (bl.length + 1) 0) 205 (bl.length + 1) 0).1 c i = s1.1 c i := fun c i q1 q2 => by rw [pV_1, if_neg (by omega), pV_1, if_neg (by omega), pV_1, if_neg (by omega)]
            refine ⟨lvO_off g6 ⟨[], (List.append_nil _).symm⟩ (old 204 _ (by decide) (fun _ => Nat.le_refl _)) (old 205 _ (by decide) (fun _ => Nat.le_refl _)) (fun t _ => old 202 _ (by decide) (by omega)) (fun t _ => old 203 _ (by decide) (by omega)), blO_off ⟨[], (List.append_nil _).symm⟩ g7 (fun i hi => ⟨old 204 _ (by decide) (by omega), old 205 _ (by decide) (by omega)⟩) (fun t _ => ⟨old 202 _ (by decide) (by omega), old 203 _ (by decide) (by omega)⟩)⟩
          · rw [pV_1, if_neg (by omega), pV_1, if_neg (by omega), pV_1, if_neg (by omega)]; exact g8
        · rw [if_pos e40]
          rw [if_neg e40] at er0
          cases mu with
          | true =>
            rw [if_pos rfl] at er0
            rw [if_neg (show ¬ bz true = 0 by decide)]
            exact ⟨so_186, bad k s1 T1 (hrd.trans er0) g1 g2 (by omega) (by omega)⟩
          | false =>
            rw [if_neg (by decide)] at er0
            rw [if_pos (show bz false = 0 by decide)]
            have hpr := rI_prod hI
            have hpz := sh_z hpr.1
            have hpz1 := z01 hpr.1
            have hw := hI.2.2.2.2
            by_cases e42 : c = 42
            · rw [if_neg (fun q => q e42)]
              rw [if_pos e42] at er0
              rcases List.eq_nil_or_concat ps with e | ⟨l0, b0, e⟩
              · exact absurd e (hI.2.2.2.1 rfl)
              rw [List.concat_eq_append] at e
              subst e
              have hst := rI_star hI
              rw [starL_app] at hst er0
              have hbm : b0 ∈ l0 ++ [b0] := List.mem_append_right _ List.mem_cons_self
              have cb := hI.2.1 b0 hbm
              have hzs := z_sStar cb
              have czs := cn_sStar cb
              have hz12 := z12 czs
              have hz01 := z01 czs
              rw [wP_app, wP_one] at hw
              rw [List.length_append, List.length_singleton] at hlen
              obtain ⟨a1, a2, a3, a4, a5, a6⟩ := g6
              have a4 : s1.1 205 bl.length = nI (l0.length + 1) := by rw [a4]; show nI (l0 ++ [b0]).length = _; rw [List.length_append]; rfl
              obtain ⟨jb, hjb1, hjb2⟩ := a6 l0.length b0 (by rw [List.getElem?_append_right (Nat.le_refl _), Nat.sub_self]; rfl)
              refine ⟨so_186, 205, ⟨so_186, rm_186_24 hM1⟩, so_186, 32, ?_⟩
              rw [g5, nI_cl (show bl.length < 2147483648 by omega), a4, nI_lit 30, nJ_mul, nJ_add, nI_lit 1, nJ_sub (by omega), show 30 * bl.length + (l0.length + 1) - 1 = 30 * bl.length + l0.length by omega, nI_cl (show 30 * bl.length + l0.length < 2147483648 by omega)]
              refine ⟨⟨sa_205, inR_nI (by omega) (by decide)⟩, 203, ⟨so_186, rm_186_22 hM1⟩, 203, ⟨so_186, rm_186_22 hM1⟩, 960, ⟨sa_203, inR_nI (by omega) (by decide)⟩, so_186, ?_⟩
              rw [hjb2]
              refine r_starB g1 (by omega) (by omega) hjb1 (by omega) (fun s2 T2 j q1 q2 q3 q4 => ?_)
              rw [rt_some]
              refine b_166_206 ⟨960, ⟨sa_203, inR_nI (by omega) (by decide)⟩, ?_⟩
              rw [nI_cl (show 30 * bl.length + l0.length < 2147483648 by omega)]
              have l1 := ad_len q3
              have p1 := ad_pn q3
              have n1 := nch_z czs
              have old : ∀ c, 202 ≤ c → s2.1 c = s1.1 c := fun c q => q2.2.1 c (by omega) (by omega) (by omega) (by omega)
              obtain ⟨eT, heT⟩ := q2.2.2.2.1
              refine nxt _ T2 ss (l0 ++ [sStar b0]) bl false _ _ hst (tb_put q1 ⟨by omega, by omega⟩) (gt_put (gt_trans g2 (gt_gz (gz_gw q2))) (by omega)) (by omega) (by omega) ?_ ?_ ?_ ?_ er0
              · rw [pV_1, if_neg (by omega), q2.2.2.1 25 (by decide) (by decide) (by decide)]; exact g5
              · refine ⟨a1, by rw [List.length_append, List.length_singleton]; omega, ?_, ?_, fun t c hc => ?_, fun t c hc => ?_⟩
                · rw [pV_1, if_neg (by omega), old 204 (by decide)]; exact a3
                · rw [pV_1, if_neg (by omega), old 205 (by decide), a4, List.length_append]; rfl
                · obtain ⟨j', i1, i2⟩ := a5 t c hc
                  exact ⟨j', by rw [heT]; exact app_at i1, by rw [pV_1, if_neg (by omega), old 202 (by decide)]; exact i2⟩
                · have ht : t < (l0 ++ [sStar b0]).length := (List.getElem?_eq_some_iff.mp hc).1
                  rw [List.length_append, List.length_singleton] at ht
                  by_cases e : t = l0.length
                  · rw [e, List.getElem?_append_right (Nat.le_refl _), Nat.sub_self] at hc
                    cases hc
                    exact ⟨j, q4, by rw [pV_1, if_pos ⟨rfl, by omega⟩]⟩
                  · rw [List.getElem?_append_left (by omega)] at hc
                    obtain ⟨j', i1, i2⟩ := a6 t c (by rw [List.getElem?_append_left (by omega)]; exact hc)
                    exact ⟨j', by rw [heT]; exact app_at i1, by rw [pV_1, if_neg (by omega), old 203 (by decide)]; exact i2⟩
              · refine blO_off ⟨eT, heT⟩ g7 (fun i hi => ⟨?_, ?_⟩) (fun t ht => ⟨?_, ?_⟩)
                · rw [pV_1, if_neg (by omega), old 204 (by decide)]
                · rw [pV_1, if_neg (by omega), old 205 (by decide)]
                · rw [pV_1, if_neg (by omega), old 202 (by decide)]
                · rw [pV_1, if_neg (by omega), old 203 (by decide)]
              · rw [pV_1, if_neg (by omega), q2.2.2.1 26 (by decide) (by decide) (by decide)]; exact g8
            · rw [if_pos e42]
              rw [if_neg e42] at er0
              by_cases e43 : c = 43
              · rw [if_neg (fun q => q e43)]
                rw [if_pos e43] at er0
                refine ⟨so_186, r_endsProduct (k := bl.length) g1 (by omega) (by omega) g5 (by omega) g6 (by omega) (by omega) (by omega) (by omega) (by omega) (fun s2 s3 T2 q1 q2 q3 q4 q5 => ?_)⟩
                rw [rt_none]
                have l1 := ad_len q5
                have p1 := ad_pn q5
                have n1 := nch_z hpr.1
                have old : ∀ c, 202 ≤ c → s2.1 c = s1.1 c := fun c q => q2.2.1 c (by omega) (by omega) (by omega) (by omega)
                have up : ∀ c i, (c = 204 ∨ c = 205 → i ≠ bl.length) → (c = 202 → i ≠ 30 * bl.length + ss.length) → s3.1 c i = s2.1 c i := fun c i i1 i2 => by rw [q3, pV_1, if_neg (by omega), pV_1, if_neg (by omega), pV_1, if_neg (by omega)]
                refine b_166_221 (nxt s3 T2 (ss ++ [sProd ps]) [] bl true _ _ (rI_plus hI) q1 ?_ (by omega) (by omega) ?_ q4 ?_ ?_ er0)
                · rw [q3]; exact gt_put (gt_put (gt_put (gt_trans g2 (gt_gz (gz_gw q2))) (by omega)) (by omega)) (by omega)
                · rw [up 186 25 (by omega) (by omega), q2.2.2.1 25 (by decide) (by decide) (by decide)]; exact g5
                · refine blO_off q2.2.2.2.1 g7 (fun i hi => ⟨?_, ?_⟩) (fun t ht => ⟨?_, ?_⟩)
                  · rw [up 204 i (by omega) (by omega), old 204 (by decide)]
                  · rw [up 205 i (by omega) (by omega), old 205 (by decide)]
                  · rw [up 202 t (by omega) (by omega), old 202 (by decide)]
                  · rw [up 203 t (by omega) (by omega), old 203 (by decide)]
                · rw [up 186 26 (by omega) (by omega), q2.2.2.1 26 (by decide) (by decide) (by decide)]; exact g8
              · rw [if_pos e43]
                rw [if_neg e43] at er0
                by_cases e41 : c = 41
                · rw [if_neg (fun q => q e41)]
                  rw [if_pos e41] at er0
                  refine ⟨so_186, ?_⟩
                  rw [g5]
                  cases bl with
                  | nil =>
                    rw [if_pos (by decide)]
                    exact b_166_266 ⟨so_186, bad k s1 T1 (hrd.trans er0) g1 g2 (by omega) (by omega)⟩
                  | cons q bl =>
                    have eb : (q :: bl).length = bl.length + 1 := rfl
                    rw [eb] at g5 g6 hlen
                    have er0 : rd (c :: r) k ss ps (q :: bl) false = rd r (k + 1) q.1 (q.2 ++ [sSum (ss ++ [sProd ps])]) bl false := er0
                    rw [if_neg (by rw [eb, nI_lit 0, nJ_le (by omega) (by omega)]; omega)]
                    have hs := rI_sum hI
                    have h12 := z12 hs.1
                    have hcl := rI_close hI
                    have hlen2 := rI_len hcl
                    rw [List.length_append, List.length_singleton] at hlen2
                    refine ⟨so_186, r_endsSum (k := bl.length + 1) g1 (by omega) (by omega) g5 (by omega) g6 (by omega) (by omega) (by omega) (by omega) (by omega) ?_ (by omega) (fun s' T' T'' j q1 q2 q3 q4 q5 q6 q7 q8 q9 q10 => ?_)⟩
                    · rw [List.flatMap_append, List.length_append, List.flatMap_cons, List.flatMap_nil, List.append_nil]
                      omega
                    · rw [rt_some]
                      have l1 := ad_len q8
                      have l2 := ad_len q9
                      have p1 := ad_pn q8
                      have p2 := ad_pn q9
                      have n1 := nch_z hpr.1
                      have n2 := nch_z hs.1
                      obtain ⟨eT, heT⟩ := q2.2.2.1
                      refine b_166_245 ⟨so_186, so_186, so_186, ?_⟩
                      rw [q6, nI_lit 1, nJ_sub (by omega), Nat.add_sub_cancel]
                      have lq := lvO_off g7.1 ⟨eT, heT⟩ (q3 bl.length (by omega)).1 (q3 bl.length (by omega)).2 (fun t ht => q4 _ (by omega)) (fun t ht => by rw [q5])
                      have lq' : lvO (pV s' 186 25 (nI bl.length)).1 T'' bl.length (q.1, q.2) := lvO_off lq ⟨[], (List.append_nil _).symm⟩ (by rw [pV_1, if_neg (by omega)]) (by rw [pV_1, if_neg (by omega)]) (fun t _ => by rw [pV_1, if_neg (by omega)]) (fun t _ => by rw [pV_1, if_neg (by omega)])
                      refine r_addsFactor (k := bl.length) (n := q.2.length) q1.1 (by rw [pV_1, if_pos ⟨rfl, rfl⟩]) (by omega) lq'.2.2.2.1 (by omega) (by omega) ?_
                      rw [rt_none]
                      refine b_166_263 (nxt _ T'' q.1 (q.2 ++ [sSum (ss ++ [sProd ps])]) bl false _ _ hcl (tb_put (tb_put (tb_put q1 ⟨by omega, by omega⟩) ⟨by omega, by omega⟩) ⟨by omega, by omega⟩) (gt_put (gt_put (gt_put (gt_trans g2 q2) (by omega)) (by omega)) (by omega)) (by omega) (by omega) ?_ ?_ ?_ ?_ er0)
                      · rw [pV_1, if_neg (by omega), pV_1, if_neg (by omega), pV_1, if_pos ⟨rfl, rfl⟩]
                      · refine lvO_fac lq' (by omega) q10 ?_ ?_ (fun t ht => ?_) (fun t ht => ?_)
                        · rw [pV_1, if_neg (by omega), pV_1, if_neg (by omega)]
                        · rw [pV_1, if_pos ⟨rfl, rfl⟩]
                        · rw [pV_1, if_neg (by omega), pV_1, if_neg (by omega)]
                        · rw [pV_1, if_neg (by omega), pV_1]
                          by_cases e : t = q.2.length
                          · rw [if_pos ⟨rfl, by omega⟩, if_pos e]
                          · rw [if_neg (by omega), if_neg e]
                      · refine blO_off ⟨eT, heT⟩ g7.2 (fun i hi => ⟨?_, ?_⟩) (fun t ht => ⟨?_, ?_⟩)
                        · rw [pV_1, if_neg (by omega), pV_1, if_neg (by omega), pV_1, if_neg (by omega)]; exact (q3 i (by omega)).1
                        · rw [pV_1, if_neg (by omega), pV_1, if_neg (by omega), pV_1, if_neg (by omega)]; exact (q3 i (by omega)).2
                        · rw [pV_1, if_neg (by omega), pV_1, if_neg (by omega), pV_1, if_neg (by omega)]; exact q4 t (by omega)
                        · rw [pV_1, if_neg (by omega), pV_1, if_neg (by omega), pV_1, if_neg (by omega), q5]
                      · rw [pV_1, if_neg (by omega), pV_1, if_neg (by omega), pV_1, if_neg (by omega), q7]; exact g8
                · rw [if_pos e41]
                  rw [if_neg e41] at er0
                  exact b_166_266 ⟨so_186, bad k s1 T1 (hrd.trans er0) g1 g2 (by omega) (by omega)⟩
  refine b_166_0 ⟨so_186, so_186, so_186, r_opens (k := 0) hT.1 (by rw [pV_1, if_neg (by omega), pV_1, if_pos ⟨rfl, rfl⟩]; rfl) (by decide) ?_⟩
  rw [rt_none]
  refine b_166_14 (loop txt 0 _ T [] [] [] true .null .null .null (Nat.zero_add _) (fun i c hc => by rw [Nat.zero_add]; exact hv i c hc) rI_0 (tb_put (tb_put (tb_put (tb_put hT ⟨by omega, by omega⟩) ⟨by omega, by omega⟩) ⟨by omega, by omega⟩) ⟨by omega, by omega⟩) (gt_put (gt_put (gt_put (gt_put (gt_refl s T) (by omega)) (by omega)) (by omega)) (by omega)) (by omega) (by omega) ?_ ?_ trivial ?_ rfl)
  · rw [pV_1, if_neg (by omega), pV_1, if_neg (by omega), pV_1, if_neg (by omega), pV_1, if_pos ⟨rfl, rfl⟩]; rfl
  · refine ⟨Nat.zero_le _, Nat.zero_le _, ?_, ?_, (fun t c hc => by cases hc), (fun t c hc => by cases hc)⟩
    · rw [pV_1, if_neg (by omega), pV_1, if_pos ⟨rfl, rfl⟩]; rfl
    · rw [pV_1, if_pos ⟨rfl, rfl⟩]; rfl
  · rw [pV_1, if_neg (by omega), pV_1, if_neg (by omega), pV_1, if_pos ⟨rfl, rfl⟩]
end RU
