/-! READING, BY THE CLASS -/
section RF
variable {L : Nat} {xs : Nat → Int32} {d : Nat} {s : sT} {K : Option Int32 → sT → Prop} {t : Nat} {txt : List Int32}
def facK (txt : List Int32) (s : sT) (T : List Cond) (p m k : Nat) (ss ps : List Cond) (bl : List (List Cond × List Cond)) (E : List Int32 → Prop) (K : Option Int32 → sT → Prop) : Prop := ∀ s' T' p' j x N k', tc s' T' p' → (∃ e, T' = T ++ e) → T'[j]? = some x → cn x → 1 ≤ N → z2 x ≤ N → T'.length + 2 ≤ T.length + 2 * N → 8 * p' ≤ 8 * p + 3 * sq N → fR s s' m → s'.1 1 9 = nI m → rO txt k k' N s' (rd txt 0 [] [] [] true = rd (txt.drop k') k' ss (ps ++ [x]) bl false ∧ E (txt.drop k')) → K (some (nI j)) s'
/-- an atom, or what is in brackets -/
theorem c_readAtom {T : List Cond} {p m k dep q : Nat} {ss ps : List Cond} {bl : List (List Cond × List Cond)} {mu : Bool} (hOK : txt.length ≤ 30 ∨ ∀ f, rd txt 0 [] [] [] true ≠ .inl f) (hS : sumOK L xs t txt (d + 8) q) (h : rdP L xs t txt s T p m k dep) (hq : (txt.drop k).count 40 ≤ q) (hE : rd txt 0 [] [] [] true = rd (txt.drop k) k ss ps bl mu) (hmu : mu = true ∨ ∃ c r, txt.drop k = c :: r ∧ begA c = true)
    (hK : facK txt s T p m k ss ps bl (fun _ => True) K) : tT (yY L xs) (d + 9) 26 0 [.ref 11, .int (nI dep), .null, .null] [] s K := by
  obtain ⟨hR, hT, h9, h3, h4, hk, hm, hTl, hp, hd⟩ := h
  have hn := hR.2.2.2.2.1
  have hx := hE
  rw [nb_rd (txt.drop k) k, List.drop_drop] at hE
  have hcnt : (txt.drop (k + nb (txt.drop k))).count 40 = (txt.drop k).count 40 := by
    rw [← List.drop_drop]; exact nb_ct _
  have hkb : k + nb (txt.drop k) ≤ txt.length := by
    have := nb_le (txt.drop k)
    rw [List.length_drop] at this
    omega
  generalize hk1 : k + nb (txt.drop k) = k1 at hE hcnt hkb
  -- a fault
  have bad : ∀ (s1 : sT) (u2 : Int32), nxS s s1 k1 → rd txt 0 [] [] [] true = .inl k1 → tT (yY L xs) (d + 9) 26 18 [.ref 11, .int (nI dep), .int u2, .null] [] s1 K := by
    intro s1 u2 g1 g2
    have h30 : txt.length ≤ 30 := hOK.elim id (fun q => absurd g2 (q k1))
    refine b_26_18 ⟨so_11, so_11, ?_⟩
    rw [g1.2.2.2]
    refine hK _ T p 0 S0 1 k1 (tc_put11 (tc_nx hT g1)) ⟨[], (List.append_nil _).symm⟩ (tc_5 hT 0 (by decide)) (show 0 < 5 by decide) (by decide) (show 1 ≤ 1 by decide) (by omega) (by omega) (fR_put (fR_nx g1) (by decide)) (by rw [pV_1, if_neg (by omega), g1.2.1 1 (by decide)]; exact h9) ⟨by rw [pV_1, if_neg (by omega)]; exact g1.2.2.2, by omega, hkb, Or.inr ⟨k1, by rw [pV_1, if_pos ⟨rfl, rfl⟩], hkb, g2, h30, by omega⟩⟩
  have dep40 : (nI dep : Int32) ≤ 40 := by rw [nI_lit 40, nJ_le (by omega) (by omega)]; omega
  refine b_26_0 ⟨so_11, c_next (txt.length - k) k s (by omega) hR h3 (fun s1 g1 g2 => ?_) (fun s1 c r g1 g2 g3 => ?_)⟩
  · rw [rt_some]
    rw [hk1] at g1 g2
    refine b_26_4 (c_begins ?_)
    rw [rt_some]
    refine b_26_9 ?_
    rw [if_pos (show bz (begA (-1)) = 0 from rfl)]
    refine bad s1 _ g1 ?_
    rw [hE, g2]
    have : mu = true := hmu.elim id (fun ⟨c, r, e1, e2⟩ => by
      exfalso
      have hc32 : c ≠ 32 := fun e => by rw [e] at e2; exact absurd e2 (by decide)
      rw [e1, nb_0 hc32, Nat.add_zero] at hk1
      rw [← hk1, e1] at g2
      cases g2)
    rw [this]
    unfold rd
    rw [if_pos (Or.inl rfl)]
  · rw [rt_some]
    rw [hk1] at g1 g2
    have hk1l : k1 < txt.length := by
      refine Nat.lt_of_not_le (fun hge => ?_)
      rw [List.drop_eq_nil_of_le hge] at g2
      cases g2
    have er : r = txt.drop (k1 + 1) := by
      have := List.drop_eq_getElem_cons hk1l
      rw [g2] at this
      exact (List.cons.inj this).2
    refine b_26_4 (c_begins ?_)
    rw [rt_some]
    refine b_26_9 ?_
    cases hb : begA c with
    | false =>
      rw [if_pos (show bz false = 0 from rfl)]
      refine bad s1 _ g1 ?_
      rw [hE, g2, rd_none g3 (begA_no hb).1, if_neg (begA_no hb).2]
      have : mu = true := hmu.elim id (fun ⟨c', r', e1, e2⟩ => by
        exfalso
        have hc32 : c' ≠ 32 := fun e => by rw [e] at e2; exact absurd e2 (by decide)
        rw [e1, nb_0 hc32, Nat.add_zero] at hk1
        rw [← hk1, e1] at g2
        cases g2
        rw [hb] at e2; cases e2)
      rw [this, if_pos rfl]
    | true =>
      rw [if_neg (show ¬ bz true = 0 by decide), if_pos dep40]
      refine ⟨so_11, so_11, ?_⟩
      rw [g1.2.2.2, ← nI_succ k1]
      generalize hs2 : pV s1 11 3 (nI (k1 + 1)) = s2
      have f2 : fR s s2 m := by rw [← hs2]; exact fR_put (fR_nx g1) (by decide)
      have t2 : tc s2 T p := by rw [← hs2]; exact tc_put11 (tc_nx hT g1)
      have e93 : s2.1 1 9 = nI m := by rw [← hs2, pV_1, if_neg (by omega), g1.2.1 1 (by decide)]; exact h9
      have e113 : s2.1 11 3 = nI (k1 + 1) := by rw [← hs2, pV_1, if_pos ⟨rfl, rfl⟩]
      have e114 : s2.1 11 4 = -1 := by rw [← hs2, pV_1, if_neg (by omega), g1.2.2.1 4 (by decide)]; exact h4
      rcases begA_or hb with hc40 | ⟨a, ha, hca⟩
      · rw [if_pos hc40]
        subst hc40
        have hct : (txt.drop (k1 + 1)).count 40 + 1 = (txt.drop k).count 40 := by
          rw [← hcnt, g2, er, List.count_cons, if_pos (by decide)]
        have hE2 : rd txt 0 [] [] [] true = rd (txt.drop (k1 + 1)) (k1 + 1) [] [] ((ss, ps) :: bl) true := by
          rw [hE, g2, rd_open, er]
        have sm : sq k ≤ sq (k1 + 1) := sq_mono (by omega)
        refine ⟨so_11, ?_⟩
        rw [← nI_succ]
        refine hS s2 T p m (k1 + 1) (dep + 1) ((ss, ps) :: bl) _ ⟨tR_fR hR f2, t2, e93, e113, e114, by omega, by omega, by omega, by omega, by omega⟩ (by omega) hE2 (fun s' T' p' j x N k' w1 w2 w3 w4 w5 w6 w7 w8 w9 w10 w11 => ?_)
        rw [rt_some]
        obtain ⟨v1, v2, v3, v4⟩ := w11
        have hz2 := (z12 w4).2
        have hsq := sq_2 N
        refine b_26_73 ⟨so_11, ?_⟩
        rcases v4 with ⟨v5, v6, ss', ps', v7, v8, v9⟩ | ⟨f, v5, v6, v7, v8, v9⟩
        · rw [if_neg (fun q => q v5)]
          have fR' := fR_trans f2 w9
          refine ⟨so_11, c_next (txt.length - k') k' s' (by omega) (tR_fR hR fR') v1 (fun s3 y1 y2 => ?_) (fun s3 c r y1 y2 y3 => ?_)⟩
          · have nb0 : nb (txt.drop k') = 0 := by
              cases e : txt.drop k' with
              | nil => rfl
              | cons c r => exact nb_0 (v9 c r e).1
            rw [nb0, Nat.add_zero] at y1 y2
            rw [rt_some]
            refine b_26_86 ?_
            rw [if_pos (by decide)]
            refine ⟨so_11, so_11, ?_⟩
            rw [y1.2.2.2]
            have hB : rd txt 0 [] [] [] true = .inl k' := by
              rw [v7, y2]; unfold rd; rw [if_pos (Or.inr (List.cons_ne_nil _ _))]
            have h30 : txt.length ≤ 30 := hOK.elim id (fun q => absurd hB (q k'))
            exact hK _ T' p' j x (N + 2) k' (tc_put11 (tc_nx w1 y1)) w2 w3 w4 (by omega) (by omega) (by omega) (by omega) (fR_put (fR_trans fR' (fR_nx y1)) (by decide)) (by rw [pV_1, if_neg (by omega), y1.2.1 1 (by decide)]; exact w10) ⟨by rw [pV_1, if_neg (by omega)]; exact y1.2.2.2, by omega, v3, Or.inr ⟨k', by rw [pV_1, if_pos ⟨rfl, rfl⟩], v3, hB, h30, by omega⟩⟩
          · have nb0 : nb (txt.drop k') = 0 := by
              cases e : txt.drop k' with
              | nil => rfl
              | cons c r => exact nb_0 (v9 c r e).1
            rw [nb0, Nat.add_zero] at y1 y2
            have hk2l : k' < txt.length := by
              refine Nat.lt_of_not_le (fun hge => ?_)
              rw [List.drop_eq_nil_of_le hge] at y2
              cases y2
            have er2 : r = txt.drop (k' + 1) := by
              have := List.drop_eq_getElem_cons hk2l
              rw [y2] at this
              exact (List.cons.inj this).2
            obtain ⟨z1', z2', z3', z4'⟩ := v9 c r y2
            rw [rt_some]
            refine b_26_86 ?_
            by_cases h41 : c = 41
            · rw [if_neg (fun q => q h41)]
              refine ⟨so_11, so_11, ?_⟩
              rw [y1.2.2.2, ← nI_succ]
              subst h41
              have hE3 : rd txt 0 [] [] [] true = rd (txt.drop (k' + 1)) (k' + 1) ss (ps ++ [x]) bl false := by
                rw [v7, y2, rd_close, er2, v8]
              have sm2 : sq (N + 2) ≤ sq (k' + 1 - k) := sq_mono (by omega)
              exact hK _ T' p' j x (k' + 1 - k) (k' + 1) (tc_put11 (tc_nx w1 y1)) w2 w3 w4 (by omega) (by omega) (by omega) (by omega) (fR_put (fR_trans fR' (fR_nx y1)) (by decide)) (by rw [pV_1, if_neg (by omega), y1.2.1 1 (by decide)]; exact w10) ⟨by rw [pV_1, if_pos ⟨rfl, rfl⟩], by omega, by omega, Or.inl ⟨by rw [pV_1, if_neg (by omega), y1.2.2.1 4 (by decide)]; exact v5, by omega, hE3, trivial⟩⟩
            · rw [if_pos h41]
              refine ⟨so_11, so_11, ?_⟩
              rw [y1.2.2.2]
              have hB : rd txt 0 [] [] [] true = .inl k' := by
                rw [v7, y2, rd_none z1' (begA_no z2').1, if_neg (begA_no z2').2, if_neg (by decide), if_neg z3', if_neg z4', if_neg h41]
              have h30 : txt.length ≤ 30 := hOK.elim id (fun q => absurd hB (q k'))
              exact hK _ T' p' j x (N + 2) k' (tc_put11 (tc_nx w1 y1)) w2 w3 w4 (by omega) (by omega) (by omega) (by omega) (fR_put (fR_trans fR' (fR_nx y1)) (by decide)) (by rw [pV_1, if_neg (by omega), y1.2.1 1 (by decide)]; exact w10) ⟨by rw [pV_1, if_neg (by omega)]; exact y1.2.2.2, by omega, v3, Or.inr ⟨k', by rw [pV_1, if_pos ⟨rfl, rfl⟩], v3, hB, h30, by omega⟩⟩
        · rw [if_pos (by rw [v5]; exact nI_ne_neg (by omega))]
          exact hK s' T' p' j x (N + 2) k' w1 w2 w3 w4 (by omega) (by omega) (by omega) (by omega) (fR_trans f2 w9) w10 ⟨v1, by omega, v3, Or.inr ⟨f, v5, v6, v7, v8, by omega⟩⟩
      · have hne : c ≠ 40 := by
          rw [hca]
          rcases (show a = 0 ∨ a = 1 ∨ a = 2 ∨ a = 3 ∨ a = 4 by omega) with rfl | rfl | rfl | rfl | rfl <;> decide
        rw [if_neg hne]
        have hE2 : rd txt 0 [] [] [] true = rd (txt.drop (k1 + 1)) (k1 + 1) ss (ps ++ [.count a]) bl false := by
          rw [hE, g2, hca, rd_at ha, er]
        have hT5 := tc_5 t2 a ha
        have fin : K (some (nI a)) s2 := hK s2 T p a (.count a) (k1 + 1 - k) (k1 + 1) t2 ⟨[], (List.append_nil _).symm⟩ hT5 ha (by omega) (show 1 ≤ _ by omega) (by omega) (by omega) f2 e93 ⟨e113, by omega, by omega, Or.inl ⟨e114, by omega, hE2, trivial⟩⟩
        rw [hca]
        rcases (show a = 0 ∨ a = 1 ∨ a = 2 ∨ a = 3 ∨ a = 4 by omega) with rfl | rfl | rfl | rfl | rfl
        · rw [if_neg (by decide)]; exact fin
        · rw [if_neg (by decide)]; exact fin
        · rw [if_pos (by decide)]; exact fin
        · rw [if_pos (by decide)]; exact fin
        · rw [if_pos (by decide)]; exact fin
/-- no factor goes on here -/
def stopF (r : List Int32) : Prop := ∀ c r', r = c :: r' → c ≠ 32 ∧ c ≠ 42
theorem c_readFactor {T : List Cond} {p m k dep q : Nat} {ss ps : List Cond} {bl : List (List Cond × List Cond)} {mu : Bool} (hOK : txt.length ≤ 30 ∨ ∀ f, rd txt 0 [] [] [] true ≠ .inl f) (hS : sumOK L xs t txt (d + 8) q) (h : rdP L xs t txt s T p m k dep) (hq : (txt.drop k).count 40 ≤ q) (hE : rd txt 0 [] [] [] true = rd (txt.drop k) k ss ps bl mu) (hmu : mu = true ∨ ∃ c r, txt.drop k = c :: r ∧ begA c = true)
    (hK : facK txt s T p m k ss ps bl stopF K) : tT (yY L xs) (d + 10) 25 0 [.ref 11, .int (nI dep), .null, .null] [] s K := by
  have h' := h
  obtain ⟨hR, hT, h9, h3, h4, hk, hm, hTl, hp, hd⟩ := h'
  have hn := hR.2.2.2.2.1
  have loop : ∀ (w i : Nat) (s1 : sT) (T1 : List Cond) (p1 j N k1 : Nat) (x : Cond), w + k1 = txt.length → i + 1 + k ≤ k1 → tc s1 T1 p1 → (∃ e, T1 = T ++ e) → T1[j]? = some x → cn x → 1 ≤ N → z2 x ≤ N → T1.length + 2 ≤ T.length + 2 * N → 8 * p1 ≤ 8 * p + 3 * sq N → fR s s1 m → s1.1 1 9 = nI m → s1.1 11 3 = nI k1 → s1.1 11 4 = -1 → N + k = k1 → rd txt 0 [] [] [] true = rd (txt.drop k1) k1 ss (ps ++ [x]) bl false → tT (yY L xs) (d + 10) 25 8 [.ref 11, .int (nI dep), .int (nI j), .int (nI i)] [] s1 K := by
    intro w
    induction w using Nat.strongRecOn with
    | _ w ih =>
      intro i s1 T1 p1 j N k1 x hw hi g1 g2 g3 g4 g5 g6 g7 g8 g9 g10 g11 g12 g13 g14
      have hR1 := tR_fR hR g9
      refine b_25_8 ⟨so_11, ?_⟩
      rw [hR1.2.2.1, if_neg (by rw [nJ_lt (by omega) (by omega)]; omega)]
      refine ⟨so_11, ?_⟩
      rw [if_neg (fun q => q g12)]
      have hkb : k1 + nb (txt.drop k1) ≤ txt.length := by
        have := nb_le (txt.drop k1)
        rw [List.length_drop] at this
        omega
      have hE1 : rd txt 0 [] [] [] true = rd (txt.drop (k1 + nb (txt.drop k1))) (k1 + nb (txt.drop k1)) ss (ps ++ [x]) bl false := by
        rw [g14, nb_rd, List.drop_drop]
      generalize hk2 : k1 + nb (txt.drop k1) = k2 at hkb hE1
      -- the end
      have fin : ∀ s2, nxS s1 s2 k2 → stopF (txt.drop k2) → K (some (nI j)) s2 := fun s2 y1 y2 => by
        have sm : sq N ≤ sq (k2 - k) := sq_mono (by omega)
        exact hK s2 T1 p1 j x (k2 - k) k2 (tc_nx g1 y1) g2 g3 g4 (by omega) (by omega) (by omega) (by omega) (fR_trans g9 (fR_nx y1)) (by rw [y1.2.1 1 (by decide)]; exact g10) ⟨y1.2.2.2, by omega, hkb, Or.inl ⟨by rw [y1.2.2.1 4 (by decide)]; exact g12, by omega, hE1, y2⟩⟩
      refine ⟨so_11, c_next (txt.length - k1) k1 s1 (by omega) hR1 g11 (fun s2 y1 y2 => ?_) (fun s2 c r y1 y2 y3 => ?_)⟩
      · rw [rt_some]
        rw [hk2] at y1 y2
        refine b_25_28 ?_
        rw [if_pos (by decide)]
        exact fin s2 y1 (fun c r e => by rw [y2] at e; cases e)
      · rw [rt_some]
        rw [hk2] at y1 y2
        refine b_25_28 ?_
        by_cases h42 : c = 42
        · rw [if_neg (fun q => q h42)]
          subst h42
          have hk2l : k2 < txt.length := by
            refine Nat.lt_of_not_le (fun hge => ?_)
            rw [List.drop_eq_nil_of_le hge] at y2
            cases y2
          have er : r = txt.drop (k2 + 1) := by
            have := List.drop_eq_getElem_cons hk2l
            rw [y2] at this
            exact (List.cons.inj this).2
          refine ⟨so_11, so_11, 1, ⟨so_11, rp_11_0 (show rP s2.2 by rw [y1.1]; exact hR1.1)⟩, so_1, ?_⟩
          rw [y1.2.2.2, ← nI_succ]
          have zs := z_sStar g4
          have cs := cn_sStar g4
          have z01s := z01 cs
          have z12s := z12 cs
          have sqa := sq_add k N
          have sq68 := sq_68 (a := k + N) (by omega)
          have sq1 := sq_1 N
          refine c_starOf (m := m) (k := j) (y := x) (tc_put11 (tc_nx g1 y1)) (by rw [pV_1, if_neg (by omega), y1.2.1 1 (by decide)]; exact g10) (by omega) g3 (by omega) (by omega) (by omega) (fun s3 T3 p3 j3 v1 v2 v3 v4 v5 v6 v7 => ?_)
          rw [rt_some]
          refine b_25_51 ?_
          rw [← nI_succ]
          have f3 : fR s s3 m := fR_trans (fR_put (fR_trans g9 (fR_nx y1)) (by decide)) (fR_fT v6)
          have sm : sq (N + 1) ≤ sq (k2 + 1 - k) := sq_mono (by omega)
          obtain ⟨e1, he1⟩ := g2
          obtain ⟨e2, he2⟩ := v2
          refine ih (txt.length - (k2 + 1)) (by omega) (i + 1) s3 T3 p3 j3 (k2 + 1 - k) (k2 + 1) (sStar x) (by omega) (by omega) v1 ⟨e1 ++ e2, by rw [he2, he1, List.append_assoc]⟩ v5 cs (by omega) (by omega) (by omega) (by omega) f3 v7 ?_ ?_ (by omega) ?_
          · rw [v6.2.1 11 (by decide), pV_1, if_pos ⟨rfl, rfl⟩]
          · rw [v6.2.1 11 (by decide), pV_1, if_neg (by omega), y1.2.2.1 4 (by decide)]; exact g12
          · rw [hE1, y2, rd_star, starL_app, er]
        · rw [if_pos h42]
          exact fin s2 y1 (fun c' r' e => by rw [y2] at e; cases e; exact ⟨y3, h42⟩)
  refine b_25_0 ⟨so_11, c_readAtom hOK hS h hq hE hmu (fun s' T' p' j x N k' w1 w2 w3 w4 w5 w6 w7 w8 w9 w10 w11 => ?_)⟩
  rw [rt_some]
  refine b_25_5 ?_
  obtain ⟨v1, v2, v3, v4⟩ := w11
  rcases v4 with ⟨v5, v6, v7, -⟩ | ⟨f, v5, v6, v7, v8, v9⟩
  · exact loop (txt.length - k') 0 s' T' p' j N k' x (by omega) (by omega) w1 w2 w3 w4 w5 w6 w7 w8 w9 w10 v1 v5 v6 v7
  · refine b_25_8 ⟨so_11, ?_⟩
    rw [(tR_fR hR w9).2.2.1, if_neg (show ¬ nI txt.length < 0 from nI_nn (by omega))]
    refine ⟨so_11, ?_⟩
    rw [if_pos (by rw [v5]; exact nI_ne_neg (by omega))]
    exact hK s' T' p' j x N k' w1 w2 w3 w4 w5 w6 w7 w8 w9 w10 ⟨v1, v2, v3, Or.inr ⟨f, v5, v6, v7, v8, v9⟩⟩
end RF
