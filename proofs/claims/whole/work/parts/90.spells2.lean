section SR
variable {L : Nat} {xs : Nat → Int32} {d : Nat} {s0 : sT} {K : Option Int32 → sT → Prop} {T : List Cond} {x1 : Int32}
theorem chS_z : ∀ {y : Cond}, cn y → y ≠ S0 → (chS (sumL y)).length ≤ z0 y := by
  have one : ∀ {y : Cond}, cn y → isSum y = false → y ≠ S0 → (chS (sumL y)).length ≤ z0 y := by
    intro y cy h h0
    rw [sumL_one h h0]
    exact (z01 cy).1
  intro y
  induction y with
  | or a b _ ihb =>
    intro h _
    have := ihb h.2.2.2.1 h.2.2.2.2.1
    have ha := z01 h.1
    rw [sumL_or, chS_cons, if_neg (sumL_ne h.2.2.2.2.1), (z_or a b).1, List.length_cons, List.length_cons]
    omega
  | count k => intro cy h0; exact one cy rfl h0
  | not a _ => intro cy h0; exact one cy rfl h0
  | and a b _ _ => intro cy h0; exact one cy rfl h0
  | _ => intro h; exact h.elim
/-- the loop of spells goes well from here -/
def spW (L : Nat) (xs : Nat → Int32) (d : Nat) (s0 : sT) (T : List Cond) (x1 : Int32) (K : Option Int32 → sT → Prop) (o : List Int32) (st : List itT) : Prop := ∀ s u2, spO s0 s T o st → tT (yY L xs) (d + 2) 169 16 [.ref 186, .int x1, u2] [] s K
theorem spW_byte {o : List Int32} {st : List itT} {c : Int32} (hM : rM s0.2) (ho : o.length < 600) (hst : st.length < 1999) (h : spW L xs d s0 T x1 K (o ++ [c]) st) : spW L xs d s0 T x1 K o (.inr c :: st) := by
  intro s u2 hs
  obtain ⟨⟨a1, a2, a3⟩, b1, b2, b3, ⟨b4, b5⟩, b6⟩ := hs
  have hM1 : rM s.2 := by rw [a1]; exact hM
  refine b_169_16 ⟨so_186, ?_⟩
  have b1 : s.1 186 29 = nI (st.length + 1) := b1
  rw [b1, if_neg (by rw [nI_lit 0, nJ_le (by omega) (by omega)]; omega), show nI (st.length + 1) - 1 = nI st.length from by rw [nI_lit 1, nJ_sub (by omega), Nat.add_sub_cancel]]
  refine ⟨so_186, so_186, 206, ⟨so_186, rm_186_27 hM1⟩, so_186, 2000, ?_⟩
  have e1 : (pV s 186 29 (nI st.length)).1 186 29 = nI st.length := by rw [pV_1, if_pos ⟨rfl, rfl⟩]
  have e2 : (pV s 186 29 (nI st.length)).1 186 30 = nI o.length := by rw [pV_1, if_neg (by omega)]; exact b2
  have e3 : (pV s 186 29 (nI st.length)).1 206 st.length = -1 - c := by rw [pV_1, if_neg (by omega)]; exact b4
  rw [e1, e2, nI_cl (show st.length < 2147483648 by omega), nI_cl (show o.length < 2147483648 by omega), e3]
  refine ⟨⟨sa_206, inR_nI (by omega) (by decide)⟩, ?_⟩
  rw [if_neg (by rw [Int32.not_le]; exact b5)]
  refine ⟨207, ⟨so_186, rm_186_28 hM1⟩, so_186, 600, ⟨sa_207, inR_nI (by omega) (by decide)⟩, so_186, so_186, ?_⟩
  have e4 : (-1 : Int32) - (-1 - c) = c := by
    rw [Int32.sub_eq_add_neg (-1) (-1 - c), Int32.neg_sub, Int32.add_comm, Int32.sub_add_cancel]
  have e5 : (pV (pV s 186 29 (nI st.length)) 207 o.length (-1 - (-1 - c))).1 186 30 = nI o.length := by rw [pV_1, if_neg (by omega)]; exact e2
  rw [e5, e4, ← nI_succ]
  refine b_169_82 (h _ _ ⟨⟨a1, fun z h1 h2 h3 => ?_, fun z h1 h2 => ?_⟩, ?_, ?_, fun i c' hc => ?_, ?_⟩)
  · rw [← a2 z h1 h2 h3]; funext t; rw [pV_1, if_neg (by omega), pV_1, if_neg (by omega), pV_1, if_neg (by omega)]
  · rw [pV_1, if_neg (by omega), pV_1, if_neg (by omega), pV_1, if_neg (by omega)]; exact a3 z h1 h2
  · rw [pV_1, if_neg (by omega), pV_1, if_neg (by omega), pV_1, if_pos ⟨rfl, rfl⟩]
  · rw [pV_1, if_pos ⟨rfl, rfl⟩, List.length_append]; rfl
  · have hi := (List.getElem?_eq_some_iff.mp hc).1
    rw [List.length_append, List.length_singleton] at hi
    rw [pV_1, if_neg (by omega), pV_1]
    by_cases e : i = o.length
    · subst e
      rw [if_pos ⟨rfl, rfl⟩]
      rw [List.getElem?_append_right (Nat.le_refl _), Nat.sub_self] at hc
      cases hc; rfl
    · rw [if_neg (by omega), pV_1, if_neg (by omega)]
      rw [List.getElem?_append_left (by omega)] at hc
      exact b3 i c' hc
  · refine stO_off b6 (fun k hk => ?_)
    rw [pV_1, if_neg (by omega), pV_1, if_neg (by omega), pV_1, if_neg (by omega)]
theorem spW_node {o : List Int32} {st : List itT} {y : Cond} {p : Nat} (hT : tb s0 T) (hl : T.length ≤ 1500) (hpn : pn T ≤ 24000) (hst : st.length ≤ 1000) (h : spW L xs d s0 T x1 K o (exI y p ++ st)) : spW L xs d s0 T x1 K o (.inl (y, p) :: st) := by
  intro s u2 hs
  obtain ⟨⟨a1, a2, a3⟩, b1, b2, b3, ⟨hp, j, hj, b5⟩, b6⟩ := hs
  have hp : p < 3 := hp
  have hjl := (List.getElem?_eq_some_iff.mp hj).1
  have hM1 : rM s.2 := by rw [a1]; exact hT.1
  refine b_169_16 ⟨so_186, ?_⟩
  have b1 : s.1 186 29 = nI (st.length + 1) := b1
  have b5 : s.1 206 st.length = nI (3 * j + p) := b5
  rw [b1, if_neg (by rw [nI_lit 0, nJ_le (by omega) (by omega)]; omega), show nI (st.length + 1) - 1 = nI st.length from by rw [nI_lit 1, nJ_sub (by omega), Nat.add_sub_cancel]]
  refine ⟨so_186, so_186, 206, ⟨so_186, rm_186_27 hM1⟩, so_186, 2000, ?_⟩
  have e1 : (pV s 186 29 (nI st.length)).1 186 29 = nI st.length := by rw [pV_1, if_pos ⟨rfl, rfl⟩]
  have e3 : (pV s 186 29 (nI st.length)).1 206 st.length = nI (3 * j + p) := by rw [pV_1, if_neg (by omega)]; exact b5
  rw [e1, nI_cl (show st.length < 2147483648 by omega), e3]
  refine ⟨⟨sa_206, inR_nI (by omega) (by decide)⟩, ?_⟩
  rw [if_pos (by rw [nI_lit 0, nJ_le (by omega) (by omega)]; omega), nJ_div3 (by omega), show (3 * j + p) / 3 = j by omega, nI_lit 3, nJ_mul, nJ_sub (by omega), show 3 * j + p - j * 3 = p by omega]
  refine ⟨by decide, by decide, so_186, r_spellsOne (s0 := s0) (T := T) (o := o) (st := st) hT hl hpn ⟨⟨a1, fun z h1 h2 h3 => ?_, fun z h1 h2 => ?_⟩, ?_, ?_, fun i c' hc => ?_, ?_⟩ hst hj hp (fun s' g => ?_)⟩
  · rw [← a2 z h1 h2 h3]; funext t; rw [pV_1, if_neg (by omega)]
  · rw [pV_1, if_neg (by omega)]; exact a3 z h1 h2
  · rw [pV_1, if_pos ⟨rfl, rfl⟩]
  · rw [pV_1, if_neg (by omega)]; exact b2
  · rw [pV_1, if_neg (by omega)]; exact b3 i c' hc
  · exact stO_off b6 (fun k hk => by rw [pV_1, if_neg (by omega)])
  · rw [rt_none]
    exact b_169_82 (h s' _ g)
/-- a shape on the stack is spelt -/
theorem spW_all (hT : tb s0 T) (hl : T.length ≤ 1500) (hpn : pn T ≤ 24000) : ∀ {y : Cond}, cn y → (∀ p o st, p < 3 → o.length + (sp y p).length + st.length ≤ 600 → spW L xs d s0 T x1 K (o ++ sp y p) st → spW L xs d s0 T x1 K o (.inl (y, p) :: st)) ∧ (y ≠ S0 → ∀ o st, o.length + (sp y 0).length + st.length ≤ 600 → spW L xs d s0 T x1 K (o ++ sp y 0) st → spW L xs d s0 T x1 K o (chS (sumL y) ++ st)) ∧ (y ≠ S1 → ∀ o st, o.length + (sp y 1).length + st.length ≤ 600 → spW L xs d s0 T x1 K (o ++ sp y 1) st → spW L xs d s0 T x1 K o (chP (prodL y) ++ st)) := by
  have hM := hT.1
  intro y
  induction y with
  | count k =>
    intro cy
    have P : ∀ p o st, p < 3 → o.length + (sp (.count k) p).length + st.length ≤ 600 → spW L xs d s0 T x1 K (o ++ sp (.count k) p) st → spW L xs d s0 T x1 K o (.inl (.count k, p) :: st) := by
      intro p o st _ hb h
      have hb : o.length + 1 + st.length ≤ 600 := hb
      exact spW_node hT hl hpn (by omega) (spW_byte hM (by omega) (by show st.length < 1999; omega) h)
    refine ⟨P, fun h0 o st hb h => ?_, fun h1 o st hb h => ?_⟩
    · rw [sumL_one rfl h0]; exact P 0 o st (by decide) hb h
    · rw [prodL_one rfl h1]; exact P 1 o st (by decide) hb h
  | not a iha =>
    intro cy
    have P : ∀ p o st, p < 3 → o.length + (sp (.not a) p).length + st.length ≤ 600 → spW L xs d s0 T x1 K (o ++ sp (.not a) p) st → spW L xs d s0 T x1 K o (.inl (.not a, p) :: st) := by
      intro p o st _ hb h
      have hb : o.length + (sp a 2 ++ [42]).length + st.length ≤ 600 := hb
      rw [List.length_append, List.length_singleton] at hb
      refine spW_node hT hl hpn (by omega) ?_
      refine (iha cy.1).1 2 o (.inr 42 :: st) (by decide) (by rw [List.length_cons]; omega) (spW_byte hM (by rw [List.length_append]; omega) (by omega) ?_)
      have h : spW L xs d s0 T x1 K (o ++ (sp a 2 ++ [42])) st := h
      rw [← List.append_assoc] at h
      exact h
    refine ⟨P, fun h0 o st hb h => ?_, fun h1 o st hb h => ?_⟩
    · rw [sumL_one rfl h0]; exact P 0 o st (by decide) hb h
    · rw [prodL_one rfl h1]; exact P 1 o st (by decide) hb h
  | or a b iha ihb =>
    intro cy
    have ha := (iha cy.1).1
    have hb := (ihb cy.2.2.2.1).2.1 cy.2.2.2.2.1
    have hzb := chS_z cy.2.2.2.1 cy.2.2.2.2.1
    have Q : ∀ o st, o.length + ((sp a 0).length + 1 + (sp b 0).length) + st.length ≤ 600 → spW L xs d s0 T x1 K (o ++ (sp a 0 ++ 43 :: sp b 0)) st → spW L xs d s0 T x1 K o (chS (a :: sumL b) ++ st) := by
      intro o st hbd h
      rw [chS_cons, if_neg (sumL_ne cy.2.2.2.2.1), List.cons_append, List.cons_append]
      refine ha 0 o _ (by decide) ?_ (spW_byte hM ?_ ?_ (hb _ st ?_ ?_))
      · rw [List.length_cons, List.length_append]
        have : z0 b = (sp b 0).length := rfl
        omega
      · rw [List.length_append]; omega
      · rw [List.length_append]
        have : z0 b = (sp b 0).length := rfl
        omega
      · rw [List.length_append, List.length_append, List.length_singleton]; omega
      · rw [show o ++ sp a 0 ++ [43] ++ sp b 0 = o ++ (sp a 0 ++ 43 :: sp b 0) by simp]; exact h
    have P : ∀ p o st, p < 3 → o.length + (sp (.or a b) p).length + st.length ≤ 600 → spW L xs d s0 T x1 K (o ++ sp (.or a b) p) st → spW L xs d s0 T x1 K o (.inl (.or a b, p) :: st) := by
      intro p o st _ hbd h
      refine spW_node hT hl hpn (by omega) ?_
      by_cases hp : p = 0
      · subst hp
        have e : (sp (.or a b) 0).length = (sp a 0).length + 1 + (sp b 0).length := by
          show (sp a 0 ++ 43 :: sp b 0).length = _
          rw [List.length_append, List.length_cons]; omega
        exact Q o st (by omega) h
      · have e1 : exI (.or a b) p = .inr 40 :: (chS (a :: sumL b) ++ [.inr 41]) := by show (if p = 0 then _ else _) = _; rw [if_neg hp]
        have e2 : sp (.or a b) p = 40 :: (sp a 0 ++ 43 :: sp b 0 ++ [41]) := by show (if p = 0 then _ else _) = _; rw [if_neg hp]
        rw [e2] at h hbd
        simp only [List.length_cons, List.length_append, List.length_nil] at hbd
        rw [e1, List.cons_append, List.append_assoc]
        have e3 : (chS (a :: sumL b)).length ≤ (sp a 0).length + 1 + (sp b 0).length := by
          have := chS_z cy (by intro e; cases e)
          rw [sumL_or, (z_or a b).1] at this
          have e4 : z0 a = (sp a 0).length := rfl
          have e5 : z0 b = (sp b 0).length := rfl
          omega
        refine spW_byte hM (by omega) ?_ (Q _ (.inr 41 :: st) ?_ (spW_byte hM ?_ (by omega) ?_))
        · simp only [List.length_cons, List.length_append, List.length_nil]; omega
        · simp only [List.length_cons, List.length_append, List.length_nil]; omega
        · simp only [List.length_cons, List.length_append, List.length_nil]; omega
        · rw [show o ++ [40] ++ (sp a 0 ++ 43 :: sp b 0) ++ [41] = o ++ 40 :: (sp a 0 ++ 43 :: sp b 0 ++ [41]) by simp]; exact h
    refine ⟨P, fun _ o st hbd h => Q o st ?_ h, fun h1 o st hbd h => ?_⟩
    · have e : (sp (.or a b) 0).length = (sp a 0).length + 1 + (sp b 0).length := by
        show (sp a 0 ++ 43 :: sp b 0).length = _
        rw [List.length_append, List.length_cons]; omega
      omega
    · rw [prodL_one rfl h1]; exact P 1 o st (by decide) hbd h
  | and a b iha ihb =>
    intro cy
    have ha := (iha cy.1).1
    have hb := (ihb cy.2.2.2.2.1).2.2 cy.2.2.2.2.2.2
    have hzb := (sh_z cy.2.2.2.2.1).2.2.2
    have hz1 := (z01 cy.2.2.2.2.1).2
    have Q : ∀ o st, o.length + ((sp a 1).length + (sp b 1).length) + st.length ≤ 600 → spW L xs d s0 T x1 K (o ++ (sp a 1 ++ sp b 1)) st → spW L xs d s0 T x1 K o (chP (a :: prodL b) ++ st) := by
      intro o st hbd h
      have e0 : chP (a :: prodL b) = .inl (a, 1) :: chP (prodL b) := rfl
      rw [e0, List.cons_append]
      have hlen : (chP (prodL b)).length = (prodL b).length := List.length_map _
      refine ha 1 o _ (by decide) ?_ (hb _ st ?_ ?_)
      · rw [List.length_append, hlen]
        have : z1 b = (sp b 1).length := rfl
        omega
      · rw [List.length_append]; omega
      · rw [List.append_assoc]; exact h
    have P : ∀ p o st, p < 3 → o.length + (sp (.and a b) p).length + st.length ≤ 600 → spW L xs d s0 T x1 K (o ++ sp (.and a b) p) st → spW L xs d s0 T x1 K o (.inl (.and a b, p) :: st) := by
      intro p o st _ hbd h
      refine spW_node hT hl hpn (by omega) ?_
      by_cases hp : p = 2
      · subst hp
        have e1 : exI (.and a b) 2 = .inr 40 :: (chP (a :: prodL b) ++ [.inr 41]) := rfl
        have e2 : sp (.and a b) 2 = 40 :: (sp a 1 ++ sp b 1 ++ [41]) := rfl
        rw [e2] at h hbd
        simp only [List.length_cons, List.length_append, List.length_nil] at hbd
        rw [e1, List.cons_append, List.append_assoc]
        have e3 : (chP (a :: prodL b)).length ≤ (sp a 1).length + (sp b 1).length := by
          have e4 : (chP (a :: prodL b)).length = (prodL b).length + 1 := by show (List.map _ _).length = _; rw [List.length_map]; rfl
          have e5 : z1 b = (sp b 1).length := rfl
          have e6 : z1 a = (sp a 1).length := rfl
          have e7 := z01 cy.1
          omega
        refine spW_byte hM (by omega) ?_ (Q _ (.inr 41 :: st) ?_ (spW_byte hM ?_ (by omega) ?_))
        · simp only [List.length_cons, List.length_append, List.length_nil]; omega
        · simp only [List.length_cons, List.length_append, List.length_nil]; omega
        · simp only [List.length_cons, List.length_append, List.length_nil]; omega
        · rw [show o ++ [40] ++ (sp a 1 ++ sp b 1) ++ [41] = o ++ 40 :: (sp a 1 ++ sp b 1 ++ [41]) by simp]; exact h
      · have e1 : exI (.and a b) p = chP (a :: prodL b) := by show (if p = 2 then _ else _) = _; rw [if_neg hp]
        have e2 : sp (.and a b) p = sp a 1 ++ sp b 1 := by show (if p = 2 then _ else _) = _; rw [if_neg hp]
        rw [e2] at h hbd
        rw [List.length_append] at hbd
        rw [e1]
        exact Q o st (by omega) h
    have e2 : sp (.and a b) 1 = sp a 1 ++ sp b 1 := rfl
    refine ⟨P, fun h0 o st hbd h => ?_, fun _ o st hbd h => Q o st ?_ h⟩
    · rw [sumL_one rfl h0]; exact P 0 o st (by decide) hbd h
    · rw [e2, List.length_append] at hbd; omega
  | _ => intro h; exact h.elim
/-- THE SPELLING of a node -/
theorem r_spells {s : sT} {y : Cond} {j : Nat} (hT : tb s T) (hl : T.length ≤ 1500) (hpn : pn T ≤ 24000) (hj : T[j]? = some y) (h : ∀ s', (s'.2 = s.2 ∧ (∀ z, z ≠ 186 → z ≠ 206 → z ≠ 207 → s'.1 z = s.1 z) ∧ ∀ z, z ≠ 29 → z ≠ 30 → s'.1 186 z = s.1 186 z) → s'.1 186 30 = nI (z0 y) → (∀ i c, (sp y 0)[i]? = some c → s'.1 207 i = c) → K none s') : tT (yY L xs) (d + 2) 169 0 [.ref 186, .int (nI j), .null] [] s K := by
  have cy := tb_cn hT (List.mem_of_getElem? hj)
  have hz := hT.2.2 y (List.mem_of_getElem? hj)
  have h01 := z01 cy
  refine b_169_0 ⟨so_186, so_186, so_186, ?_⟩
  refine r_pushes (s0 := s) (T := T) (o := []) (st := []) (p := 0) hT.1 ⟨⟨rfl, fun z h1 _ _ => ?_, fun z h1 h2 => ?_⟩, ?_, ?_, (fun i c hc => by cases hc), trivial⟩ (by decide) hj hl (by decide) (fun s1 g => ?_)
  · funext t; rw [pV_1, if_neg (by omega), pV_1, if_neg (by omega)]
  · rw [pV_1, if_neg (by omega), pV_1, if_neg (by omega)]
  · rw [pV_1, if_neg (by omega), pV_1, if_pos ⟨rfl, rfl⟩]; rfl
  · rw [pV_1, if_pos ⟨rfl, rfl⟩]; rfl
  · rw [rt_none]
    refine (spW_all (d := d) (x1 := nI j) (K := K) (L := L) (xs := xs) hT hl hpn cy).1 0 [] [] (by decide) ?_ (fun s2 u2 g2 => ?_) s1 .null g
    · have : z0 y = (sp y 0).length := rfl
      show 0 + _ + 0 ≤ 600
      omega
    · obtain ⟨a, b1, b2, b3, -⟩ := g2
      refine b_169_16 ⟨so_186, ?_⟩
      rw [b1, if_pos (by decide)]
      exact h s2 a b2 b3
end SR
