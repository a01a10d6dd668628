/-! SPELLING, BY THE REFERENCE -/
abbrev itT : Type := (Cond × Nat) ⊕ Int32
def chS : List Cond → List itT
  | [] => []
  | [x] => [.inl (x, 0)]
  | x :: y :: l => .inl (x, 0) :: .inr 43 :: chS (y :: l)
def chP (l : List Cond) : List itT := l.map fun x => .inl (x, 1)
def exI : Cond → Nat → List itT
  | .count k, _ => [.inr (atB k)]
  | .not a, _ => [.inl (a, 2), .inr 42]
  | .or a b, p => if p = 0 then chS (a :: sumL b) else .inr 40 :: (chS (a :: sumL b) ++ [.inr 41])
  | .and a b, p => if p = 2 then .inr 40 :: (chP (a :: prodL b) ++ [.inr 41]) else chP (a :: prodL b)
  | _, _ => []
theorem nJ_div3 {a : Nat} (h : a < 2147483648) : nI a / 3 = nI (a / 3) := by
  apply Int32.toInt_inj.mp
  rw [Int32.toInt_div, nI_int h, nI_int (by omega)]
  have e3 : (3 : Int32).toInt = 3 := rfl
  rw [e3, Int.tdiv_eq_ediv_of_nonneg (by omega), Int.bmod_eq_of_le (by omega) (by omega)]
  omega
section SQ
variable {L : Nat} {xs : Nat → Int32} {d : Nat} {s : sT} {K : Option Int32 → sT → Prop}
/-- an item on the stack -/
def itO (v : Nat → Nat → Int32) (T : List Cond) (k : Nat) (q : itT) : Prop := match q with
  | .inl q => q.2 < 3 ∧ ∃ j, T[j]? = some q.1 ∧ v 206 k = nI (3 * j + q.2)
  | .inr c => v 206 k = -1 - c ∧ -1 - c < 0
def stO (v : Nat → Nat → Int32) (T : List Cond) : List itT → Prop
  | [] => True
  | q :: st => itO v T st.length q ∧ stO v T st
/-- stack and what is spelt so far -/
def spO (s0 s : sT) (T : List Cond) (o : List Int32) (st : List itT) : Prop := (s.2 = s0.2 ∧ (∀ z, z ≠ 186 → z ≠ 206 → z ≠ 207 → s.1 z = s0.1 z) ∧ ∀ z, z ≠ 29 → z ≠ 30 → s.1 186 z = s0.1 186 z) ∧ s.1 186 29 = nI st.length ∧ s.1 186 30 = nI o.length ∧ (∀ i c, o[i]? = some c → s.1 207 i = c) ∧ stO s.1 T st
theorem itO_off {v v' : Nat → Nat → Int32} {T : List Cond} {k : Nat} {q : itT} (h : itO v T k q) (he : v' 206 k = v 206 k) : itO v' T k q := by
  unfold itO at h ⊢
  cases q <;> simp only at h ⊢ <;> rw [he] <;> exact h
theorem stO_off {v v' : Nat → Nat → Int32} {T : List Cond} : ∀ {st : List itT}, stO v T st → (∀ k, k < st.length → v' 206 k = v 206 k) → stO v' T st
  | [], _, _ => trivial
  | q :: st, h, he => ⟨itO_off h.1 (he _ (Nat.lt_succ_self _)), stO_off h.2 (fun k hk => he k (Nat.lt_succ_of_lt hk))⟩
theorem spO_push {s0 : sT} {T : List Cond} {o : List Int32} {st : List itT} {q : itT} {x : Int32} (h : spO s0 s T o st) (hq : itO (fun _ _ => x) T 0 q) : spO s0 (pV (pV s 206 st.length x) 186 29 (nI (st.length + 1))) T o (q :: st) := by
  obtain ⟨⟨a1, a2, a3⟩, b1, b2, b3, b4⟩ := h
  refine ⟨⟨a1, fun z h1 h2 h3 => by rw [← a2 z h1 h2 h3]; funext t; rw [pV_1, if_neg (by omega), pV_1, if_neg (by omega)], fun z h1 h2 => by rw [pV_1, if_neg (by omega), pV_1, if_neg (by omega)]; exact a3 z h1 h2⟩, ?_, ?_, fun i c hc => ?_, ?_, ?_⟩
  · rw [pV_1, if_pos ⟨rfl, rfl⟩]; rfl
  · rw [pV_1, if_neg (by omega), pV_1, if_neg (by omega)]; exact b2
  · rw [pV_1, if_neg (by omega), pV_1, if_neg (by omega)]; exact b3 i c hc
  · have e : (pV (pV s 206 st.length x) 186 29 (nI (st.length + 1))).1 206 st.length = x := by rw [pV_1, if_neg (by omega), pV_1, if_pos ⟨rfl, rfl⟩]
    unfold itO at hq ⊢
    cases q <;> simp only at hq ⊢ <;> rw [e] <;> exact hq
  · refine stO_off b4 (fun k hk => ?_)
    rw [pV_1, if_neg (by omega), pV_1, if_neg (by omega)]
theorem r_pushes {s0 : sT} {T : List Cond} {o : List Int32} {st : List itT} {j p : Nat} {y : Cond} (hM : rM s0.2) (h : spO s0 s T o st) (hst : st.length < 2000) (hj : T[j]? = some y) (hl : T.length ≤ 1500) (hp : p < 3) (hK : ∀ s', spO s0 s' T o (.inl (y, p) :: st) → K none s') : tT (yY L xs) d 167 0 [.ref 186, .int (nI j), .int (nI p)] [] s K := by
  have hM1 : rM s.2 := by rw [h.1.1]; exact hM
  have hjl := (List.getElem?_eq_some_iff.mp hj).1
  refine b_167_0 ⟨206, ⟨so_186, rm_186_27 hM1⟩, so_186, 2000, ?_⟩
  rw [h.2.1, nI_cl (show st.length < 2147483648 by omega)]
  refine ⟨⟨sa_206, inR_nI hst (by decide)⟩, so_186, so_186, ?_⟩
  rw [pV_1, if_neg (by omega), h.2.1, ← nI_succ]
  refine hK _ (spO_push h ⟨hp, j, hj, ?_⟩)
  show 3 * nI j + nI p = _
  rw [nI_lit 3, nJ_mul, nJ_add]
theorem r_pushesByte {s0 : sT} {T : List Cond} {o : List Int32} {st : List itT} {c : Int32} (hM : rM s0.2) (h : spO s0 s T o st) (hst : st.length < 2000) (hc : -1 - c < 0) (hK : ∀ s', spO s0 s' T o (.inr c :: st) → K none s') : tT (yY L xs) d 168 0 [.ref 186, .int c] [] s K := by
  have hM1 : rM s.2 := by rw [h.1.1]; exact hM
  refine b_168_0 ⟨206, ⟨so_186, rm_186_27 hM1⟩, so_186, 2000, ?_⟩
  rw [h.2.1, nI_cl (show st.length < 2147483648 by omega)]
  refine ⟨⟨sa_206, inR_nI hst (by decide)⟩, so_186, so_186, ?_⟩
  rw [pV_1, if_neg (by omega), h.2.1, ← nI_succ]
  exact hK _ (spO_push h ⟨rfl, hc⟩)
theorem spO_tb {s0 : sT} {T : List Cond} {o : List Int32} {st : List itT} (hT : tb s0 T) (h : spO s0 s T o st) : tb s T := by
  obtain ⟨hM, ⟨off, hN⟩, hs⟩ := hT
  exact ⟨by rw [h.1.1]; exact hM, ⟨off, rN_off hN (h.1.2.2 12 (by decide) (by decide)) (h.1.2.2 13 (by decide) (by decide)) (fun z q1 q2 => h.1.2.1 z (by omega) (by omega) (by omega))⟩, hs⟩
theorem chS_cons {x : Cond} {l : List Cond} : chS (x :: l) = .inl (x, 0) :: if l = [] then [] else .inr 43 :: chS l := by
  cases l with
  | nil => rfl
  | cons y l => rw [if_neg (List.cons_ne_nil _ _)]; rfl
theorem drop_cons {l : List Cond} {i : Nat} (h : i < l.length) : l.drop i = l[i] :: l.drop (i + 1) := List.drop_eq_getElem_cons h
/-- one node in place of itself -/
theorem r_spellsOne {s0 : sT} {T : List Cond} {o : List Int32} {st : List itT} {j p : Nat} {y : Cond} (hT : tb s0 T) (hl : T.length ≤ 1500) (hpn : pn T ≤ 24000) (h : spO s0 s T o st) (hst : st.length ≤ 1000) (hj : T[j]? = some y) (hp : p < 3) (hK : ∀ s', spO s0 s' T o (exI y p ++ st) → K none s') : tT (yY L xs) (d + 1) 170 0 [.ref 186, .int (nI j), .int (nI p), .null, .null, .null] [] s K := by
  have hjl := (List.getElem?_eq_some_iff.mp hj).1
  have hT1 := spO_tb hT h
  have hM := hT.1
  have hM1 := hT1.1
  have cy := tb_cn hT1 (List.mem_of_getElem? hj)
  have hzy := hT.2.2 y (List.mem_of_getElem? hj)
  have hcl := chl_z cy
  have h01 := z01 cy
  obtain ⟨off, hN⟩ := hT.2.1
  obtain ⟨⟨n1, n2, n3, -, -, -, n7, n8⟩, n9⟩ := hN.2.2.2.2.2 j y hj
  have cl : (nI j).toNatClampNeg = j := nI_cl (by omega)
  have ink : inR (nI j) 1500 := inR_nI (by omega) (by decide)
  have rd0 : ∀ {s' : sT} {o' : List Int32} {st' : List itT}, spO s0 s' T o' st' → ∀ z, z ≠ 186 → z ≠ 206 → z ≠ 207 → s'.1 z = s0.1 z := fun h => h.1.2.1
  refine b_170_0 ⟨190, ⟨so_186, rm_186_5 hM1⟩, 1500, ⟨sa_190, ink⟩, ?_⟩
  rw [cl, rd0 h 190 (by decide) (by decide) (by decide), n1]
  -- sums and products
  have many : ∀ (br : Int32) (hows : 3 = kd y ∨ 4 = kd y) (chain : List Cond → List itT) (sep : Bool) (q0 : Nat), q0 < 3 → chain [] = [] → (∀ x l, chain (x :: l) = .inl (x, q0) :: (if sep = true ∧ l ≠ [] then .inr 43 :: chain l else chain l)) → (sep = true ↔ kd y = 3) → (q0 = if kd y = 4 then 1 else 0) → (br = 0 → ∀ s', spO s0 s' T o (chain (chl y) ++ st) → K none s') → (br ≠ 0 → ∀ s', spO s0 s' T o (.inr 40 :: (chain (chl y) ++ .inr 41 :: st)) → K none s') → tT (yY L xs) (d + 1) 170 105 [.ref 186, .int (nI j), .int (nI p), .int (nI (kd y)), .null, .null] [.int br] s K := by
    intro br hows chain sep q0 hq0 ch0 chc hsep hq hk0 hk1
    rw [nch_3 (by omega)] at n3 n9
    have loop : ∀ (base : List itT), base.length ≤ 1001 → (∀ s', spO s0 s' T o (chain (chl y) ++ base) → tT (yY L xs) (d + 1) 170 128 [.ref 186, .int (nI j), .int (nI p), .int (nI (kd y)), .int br, .int (nI 0 - 1)] [] s' K) → ∀ i (s1 : sT), i ≤ (chl y).length → spO s0 s1 T o ((if 0 < i ∧ sep = true ∧ (chl y).drop i ≠ [] then .inr 43 :: chain ((chl y).drop i) else chain ((chl y).drop i)) ++ base) → tT (yY L xs) (d + 1) 170 128 [.ref 186, .int (nI j), .int (nI p), .int (nI (kd y)), .int br, .int (nI i - 1)] [] s1 K := by
      intro base hb hfin i
      induction i with
      | zero =>
        intro s1 _ g
        rw [if_neg (by omega), List.drop_zero] at g
        exact hfin s1 g
      | succ i ih =>
        intro s1 hi g
        have hi' : i < (chl y).length := by omega
        have lenb : ∀ l : List Cond, (chain l).length ≤ 2 * l.length := by
          intro l
          induction l with
          | nil => rw [ch0]; exact Nat.le_refl _
          | cons x l ih =>
            rw [chc, List.length_cons, List.length_cons]
            split
            · rw [List.length_cons]; omega
            · omega
        have hM2 : rM s1.2 := by rw [g.1.1]; exact hM
        have g : spO s0 s1 T o ((if sep = true ∧ (chl y).drop (i + 1) ≠ [] then .inr 43 :: chain ((chl y).drop (i + 1)) else chain ((chl y).drop (i + 1))) ++ base) := by
          by_cases hc : sep = true ∧ (chl y).drop (i + 1) ≠ []
          · rw [if_pos hc]; rw [if_pos ⟨Nat.succ_pos _, hc⟩] at g; exact g
          · rw [if_neg hc]; rw [if_neg (fun q => hc q.2)] at g; exact g
        rw [show nI (i + 1) - 1 = nI i from by rw [nI_lit 1, nJ_sub (by omega), Nat.add_sub_cancel]]
        obtain ⟨jc, c1, c2⟩ := n8 i _ (List.getElem?_eq_getElem hi')
        refine b_170_128 ?_
        rw [if_neg (nI_nn (by omega))]
        refine ⟨195, ⟨so_186, rm_186_10 hM2⟩, 191, ⟨so_186, rm_186_6 hM2⟩, 1500, ⟨sa_191, ink⟩, 24000, ?_⟩
        rw [cl, rd0 g 191 (by decide) (by decide) (by decide), n2, nJ_add, nI_cl (show off j + i < 2147483648 by omega), rd0 g 195 (by decide) (by decide) (by decide), c2]
        refine ⟨⟨sa_195, inR_nI (by omega) (by decide)⟩, ?_⟩
        have hlen : ((if sep = true ∧ (chl y).drop (i + 1) ≠ [] then .inr 43 :: chain ((chl y).drop (i + 1)) else chain ((chl y).drop (i + 1))) ++ base).length < 1998 := by
          have := lenb ((chl y).drop (i + 1))
          rw [List.length_drop] at this
          rw [List.length_append]
          split
          · rw [List.length_cons]; omega
          · omega
        have push : tT (yY L xs) (d + 1) 170 158 [.ref 186, .int (nI j), .int (nI p), .int (nI (kd y)), .int br, .int (nI i)] [.int (nI q0), .int (nI jc), .ref 186] s1 K := by
          refine b_170_158 ⟨so_186, r_pushes hM g (by omega) c1 hl hq0 (fun s2 g2 => ?_)⟩
          rw [rt_none]
          have g2 : spO s0 s2 T o (chain ((chl y).drop i) ++ base) := by
            rw [drop_cons hi', chc]; exact g2
          have nx : ∀ s3, spO s0 s3 T o ((if 0 < i ∧ sep = true ∧ (chl y).drop i ≠ [] then .inr 43 :: chain ((chl y).drop i) else chain ((chl y).drop i)) ++ base) → tT (yY L xs) (d + 1) 170 177 [.ref 186, .int (nI j), .int (nI p), .int (nI (kd y)), .int br, .int (nI i)] [] s3 K := by
            intro s3 g3
            refine b_170_177 ?_
            rw [show nI i + (-1) = nI i - 1 from (Int32.sub_eq_add_neg _ _).symm]
            exact ih s3 (by omega) g3
          refine b_170_161 ?_
          by_cases h0 : i = 0
          · rw [if_pos (by rw [h0]; decide)]
            exact nx s2 (by rw [if_neg (by omega)]; exact g2)
          · rw [if_neg (by rw [nI_lit 0, nJ_le (by omega) (by omega)]; omega)]
            by_cases h3 : kd y = 3
            · rw [if_neg (by rw [h3]; exact fun q => q rfl)]
              refine ⟨so_186, r_pushesByte hM g2 ?_ (by decide) (fun s3 g3 => ?_)⟩
              · have := lenb ((chl y).drop i)
                rw [List.length_drop] at this
                rw [List.length_append]
                omega
              · rw [rt_none]
                refine nx s3 ?_
                rw [if_pos ⟨by omega, hsep.mpr h3, by rw [drop_cons hi']; exact List.cons_ne_nil _ _⟩]
                exact g3
            · rw [if_pos (show ¬ nI (kd y) = 3 from fun e => h3 ((nJ_eq (by have := kd_le y; omega) (by decide)).mp e))]
              exact nx s2 (by rw [if_neg (fun q => h3 (hsep.mp q.2.1))]; exact g2)
        by_cases h4 : kd y = 4
        · rw [if_neg (by rw [h4]; exact fun q => q rfl)]
          rw [if_pos h4] at hq
          rw [hq] at push
          exact push
        · rw [if_pos (show ¬ nI (kd y) = 4 from fun e => h4 ((nJ_eq (by have := kd_le y; omega) (by decide)).mp e))]
          rw [if_neg h4] at hq
          rw [hq] at push
          exact push
    have at118 : ∀ (s1 : sT) (base : List itT), base.length ≤ 1001 → spO s0 s1 T o base → (∀ s', spO s0 s' T o (chain (chl y) ++ base) → tT (yY L xs) (d + 1) 170 128 [.ref 186, .int (nI j), .int (nI p), .int (nI (kd y)), .int br, .int (nI 0 - 1)] [] s' K) → tT (yY L xs) (d + 1) 170 118 [.ref 186, .int (nI j), .int (nI p), .int (nI (kd y)), .int br, .null] [] s1 K := by
      intro s1 base hb g hfin
      refine b_170_118 ⟨192, ⟨so_186, rm_186_7 (by rw [g.1.1]; exact hM)⟩, 1500, ⟨sa_192, ink⟩, ?_⟩
      rw [cl, rd0 g 192 (by decide) (by decide) (by decide), n3]
      refine loop base hb hfin _ s1 (Nat.le_refl _) ?_
      rw [List.drop_length, if_neg (fun q => q.2.2 rfl), ch0]
      exact g
    refine b_170_105 ?_
    by_cases hb : br = 0
    · rw [if_pos hb]
      refine at118 s st (by omega) h (fun s' g => ?_)
      refine b_170_128 ?_
      rw [if_pos (by decide), if_pos hb]
      exact b_170_194 (hk0 hb s' g)
    · rw [if_neg hb]
      refine ⟨so_186, r_pushesByte hM h (by omega) (by decide) (fun s1 g1 => ?_)⟩
      rw [rt_none]
      refine at118 s1 (.inr 41 :: st) (by rw [List.length_cons]; omega) g1 (fun s' g => ?_)
      refine b_170_128 ?_
      rw [if_pos (by decide), if_neg hb]
      have lenb : ∀ l : List Cond, (chain l).length ≤ 2 * l.length := by
        intro l
        induction l with
        | nil => rw [ch0]; exact Nat.le_refl _
        | cons x l ih =>
          rw [chc, List.length_cons, List.length_cons]
          split
          · rw [List.length_cons]; omega
          · omega
      refine ⟨so_186, r_pushesByte hM g ?_ (by decide) (fun s2 g2 => ?_)⟩
      · have := lenb (chl y)
        rw [List.length_append, List.length_cons]; omega
      · rw [rt_none]
        exact b_170_194 (hk1 hb s2 g2)
  cases y with
  | count k =>
    have hk5 : k < 5 := cy
    have byte : tT (yY L xs) (d + 1) 170 46 [.ref 186, .int (nI j), .int (nI p), .int (nI (kd (.count k))), .null, .null] [.int (atB k), .ref 186] s K := by
      refine b_170_46 ⟨so_186, r_pushesByte hM h (by omega) ?_ (fun s1 g1 => ?_)⟩
      · rcases (show k = 0 ∨ k = 1 ∨ k = 2 ∨ k = 3 ∨ k = 4 by omega) with rfl | rfl | rfl | rfl | rfl <;> decide
      · rw [rt_none]; exact b_170_49 (hK s1 g1)
    rw [if_neg (by rcases (show k = 0 ∨ k = 1 ∨ k = 2 ∨ k = 3 ∨ k = 4 by omega) with rfl | rfl | rfl | rfl | rfl <;> decide)]
    rcases (show k = 0 ∨ k = 1 ∨ 2 ≤ k by omega) with rfl | rfl | hk
    · rw [if_neg (by decide)]; exact byte
    · rw [if_pos (by decide), if_neg (by decide)]; exact byte
    · have ek : kd (.count k) = 2 := by
        show (if k = 0 then 0 else if k = 1 then 1 else 2) = 2
        rw [if_neg (by omega), if_neg (by omega)]
      rw [if_pos (by rw [ek]; decide), if_pos (by rw [ek]; decide)]
      have e7 := n7 (k - 2) (by rw [show 2 + (k - 2) = k by omega])
      have e9 : nch (.count k) = 1 := by unfold nch; rw [if_pos ek]
      rw [e9] at n9
      refine ⟨195, ⟨so_186, rm_186_10 hM1⟩, 191, ⟨so_186, rm_186_6 hM1⟩, 1500, ⟨sa_191, ink⟩, 24000, ?_⟩
      rw [rd0 h 191 (by decide) (by decide) (by decide), n2, nI_cl (show off j < 2147483648 by omega), rd0 h 195 (by decide) (by decide) (by decide), e7]
      refine ⟨⟨sa_195, inR_nI (by omega) (by decide)⟩, ?_⟩
      have : (97 : Int32) + nI (k - 2) = atB k := by
        rcases (show k = 2 ∨ k = 3 ∨ k = 4 by omega) with rfl | rfl | rfl <;> rfl
      rw [this]
      exact byte
  | not a =>
    rw [if_pos (show (3 : Int32) ≤ nI (kd (.not a)) from (by decide : (3 : Int32) ≤ nI 5)), if_neg (show ¬ ¬ nI (kd (.not a)) = 5 from (by decide : ¬ ¬ nI 5 = 5))]
    obtain ⟨jc, c1, c2⟩ := n8 0 a rfl
    have e9 : nch (.not a) = 1 := rfl
    rw [e9] at n9
    refine ⟨so_186, r_pushesByte hM h (by omega) (by decide) (fun s1 g1 => ?_)⟩
    rw [rt_none]
    have hM2 : rM s1.2 := by rw [g1.1.1]; exact hM
    refine b_170_61 ⟨195, ⟨so_186, rm_186_10 hM2⟩, 191, ⟨so_186, rm_186_6 hM2⟩, 1500, ⟨sa_191, ink⟩, 24000, ?_⟩
    rw [Nat.add_zero] at c2
    rw [cl, rd0 g1 191 (by decide) (by decide) (by decide), n2, nI_cl (show off j < 2147483648 by omega), rd0 g1 195 (by decide) (by decide) (by decide), c2]
    refine ⟨⟨sa_195, inR_nI (by omega) (by decide)⟩, so_186, r_pushes (p := 2) hM g1 (by rw [List.length_cons]; omega) c1 hl (by decide) (fun s2 g2 => ?_)⟩
    rw [rt_none]
    exact b_170_77 (hK s2 g2)
  | or a b =>
    rw [if_pos (show (3 : Int32) ≤ nI (kd (.or a b)) from (by decide : (3 : Int32) ≤ nI 3)), if_pos (show ¬ nI (kd (.or a b)) = 5 from (by decide : ¬ nI 3 = 5)), if_neg (show ¬ ¬ nI (kd (.or a b)) = 3 from (by decide : ¬ ¬ nI 3 = 3))]
    have chc : ∀ x l, chS (x :: l) = .inl (x, 0) :: (if true = true ∧ l ≠ [] then .inr 43 :: chS l else chS l) := by
      intro x l
      cases l with
      | nil => rfl
      | cons y l => rw [if_pos ⟨rfl, List.cons_ne_nil _ _⟩]; rfl
    have e0 : p = 0 → exI (.or a b) p = chS (a :: sumL b) := fun e => by subst e; rfl
    have e1 : p ≠ 0 → exI (.or a b) p = .inr 40 :: (chS (a :: sumL b) ++ [.inr 41]) := fun e => by show (if p = 0 then _ else _) = _; rw [if_neg e]
    by_cases hp0 : p = 0
    · rw [if_pos (by rw [hp0]; decide)]
      refine many 0 (Or.inl rfl) chS true 0 (by decide) rfl chc ⟨fun _ => rfl, fun _ => rfl⟩ rfl (fun _ s' g => hK s' ?_) (fun e => absurd rfl e)
      rw [e0 hp0]; exact g
    · rw [if_neg (by rw [nI_lit 0, nJ_le (by omega) (by omega)]; omega)]
      refine many 1 (Or.inl rfl) chS true 0 (by decide) rfl chc ⟨fun _ => rfl, fun _ => rfl⟩ rfl (fun e => absurd e (by decide)) (fun _ s' g => hK s' ?_)
      rw [e1 hp0, List.cons_append, List.append_assoc]; exact g
  | and a b =>
    rw [if_pos (show (3 : Int32) ≤ nI (kd (.and a b)) from (by decide : (3 : Int32) ≤ nI 4)), if_pos (show ¬ nI (kd (.and a b)) = 5 from (by decide : ¬ nI 4 = 5)), if_pos (show ¬ nI (kd (.and a b)) = 3 from (by decide : ¬ nI 4 = 3))]
    have chc : ∀ x l, chP (x :: l) = .inl (x, 1) :: (if false = true ∧ l ≠ [] then .inr 43 :: chP l else chP l) := by
      intro x l
      rw [if_neg (fun q => by cases q.1)]; rfl
    have e0 : p ≠ 2 → exI (.and a b) p = chP (a :: prodL b) := fun e => by show (if p = 2 then _ else _) = _; rw [if_neg e]
    have e1 : p = 2 → exI (.and a b) p = .inr 40 :: (chP (a :: prodL b) ++ [.inr 41]) := fun e => by subst e; rfl
    by_cases hp0 : p = 2
    · rw [if_neg (by rw [hp0]; exact fun q => q rfl)]
      refine many 1 (Or.inr rfl) chP false 1 (by decide) rfl chc ⟨(fun e => by cases e), (fun e => by cases e)⟩ rfl (fun e => absurd e (by decide)) (fun _ s' g => hK s' ?_)
      rw [e1 hp0, List.cons_append, List.append_assoc]; exact g
    · rw [if_pos (show ¬ nI p = 2 from fun e => hp0 ((nJ_eq (by omega) (by decide)).mp e))]
      refine many 0 (Or.inr rfl) chP false 1 (by decide) rfl chc ⟨(fun e => by cases e), (fun e => by cases e)⟩ rfl (fun _ s' g => hK s' ?_) (fun e => absurd rfl e)
      rw [e0 hp0]; exact g
  | _ => exact cy.elim
end SQ
