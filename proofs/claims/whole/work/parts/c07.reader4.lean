section RH
variable {L : Nat} {xs : Nat → Int32} {d : Nat} {s : sT} {K : Option Int32 → sT → Prop} {t : Nat} {txt : List Int32}
theorem flat_S {ss : List Cond} (h : ∀ x ∈ ss, cn x) : (∀ y ∈ ddp [] (ss.flatMap sumL), cn y ∧ isSum y = false ∧ y ≠ S0) ∧ (ddp [] (ss.flatMap sumL)).Nodup ∧ (ddp [] (ss.flatMap sumL)).length ≤ wL ss := by
  refine ⟨fun y hy => ?_, ddp_nodup List.nodup_nil, ?_⟩
  · rcases ddp_mem.mp hy with q | q
    · cases q
    · obtain ⟨x, hx, hy⟩ := List.mem_flatMap.mp q
      exact cn_sumL (h x hx) y hy
  · have h1 := ddp_len (l := ss.flatMap sumL) (acc := [])
    have h2 := (wL_flat h).2.1
    rw [List.length_nil] at h1
    omega
theorem c_readSum {T : List Cond} {p m k dep q : Nat} {bl : List (List Cond × List Cond)} (hOK : txt.length ≤ 30 ∨ ∀ f, rd txt 0 [] [] [] true ≠ .inl f) (hS : sumOK L xs t txt (d + 8) q) (h : rdP L xs t txt s T p m k dep) (hq : (txt.drop k).count 40 ≤ q) (hE : rd txt 0 [] [] [] true = rd (txt.drop k) k [] [] bl true)
    (hK : sumK txt s T p m k bl K) : tT (yY L xs) (d + 12) 23 0 [.ref 11, .int (nI dep), .null, .null, .null] [] s K := by
  have h' := h
  obtain ⟨hR, hT, h9, h3, h4, hk, hm, hTl, hp, hd⟩ := h'
  have hn := hR.2.2.2.2.1
  have fin : ∀ (i x3 : Int32) (s1 : sT) (T1 : List Cond) (p1 N k1 : Nat) (ss ps : List Cond), (∀ x ∈ ss ++ [sProd ps], cn x) → wL (ss ++ [sProd ps]) ≤ N + 1 → k + N ≤ 68 → 1 ≤ N → tc s1 T1 p1 → (∃ e, T1 = T ++ e) → opO s1.1 T1 m (ddp [] ((ss ++ [sProd ps]).flatMap sumL)) → T1.length + 1 ≤ T.length + 2 * N → 8 * p1 ≤ 8 * p + 3 * sq N + 8 * N → fR s s1 m → rO txt k k1 N s1 (rd txt 0 [] [] [] true = rd (txt.drop k1) k1 ss ps bl false ∧ stopS (txt.drop k1)) → tT (yY L xs) (d + 12) 23 82 [.ref 11, .int (nI dep), .int (nI m), .int x3, .int i] [] s1 K := by
    intro i x3 s1 T1 p1 N k1 ss ps a1 a3 a4 h1N g1 g2 g3 g4 g5 g6 g7
    obtain ⟨f1, f2, f3⟩ := flat_S a1
    have f4 : 2 * (ddp [] ((ss ++ [sProd ps]).flatMap sumL)).length ≤ N + 1 := by
      have h1 := wL_flat (l := ddp [] ((ss ++ [sProd ps]).flatMap sumL)) (fun x hx => (f1 x hx).1)
      have h2 := wL_ddp (l := (ss ++ [sProd ps]).flatMap sumL) (acc := [])
      have h3 := (wL_flat a1).1
      have e0 : wL [] = 0 := rfl
      omega
    have hz := z_sSum a1 (by simp)
    have cs := (cn_sSum a1).1
    have sqa := sq_add k N
    have sq68 := sq_68 (a := k + N) a4
    refine b_23_82 ⟨1, ⟨so_11, rp_11_0 (tR_fR hR g6).1⟩, so_1, c_closeSum g1 g3 (by omega) f1 f2 (show z0 (sSum (ss ++ [sProd ps])) ≤ 68 by omega) (by omega) (by omega) (fun s' T' p' j q1 q2 q3 q4 q5 q6 q7 => ?_)⟩
    rw [rt_some]
    obtain ⟨e1, he1⟩ := g2
    obtain ⟨e2, he2⟩ := q2
    obtain ⟨v1, v2, v3, v4⟩ := g7
    refine b_23_90 (hK s' T' p' j (sSum (ss ++ [sProd ps])) N k1 q1 ⟨e1 ++ e2, by rw [he2, he1, List.append_assoc]⟩ q5 cs h1N (by omega) (by omega) (by omega) (fR_trans g6 (fR_fT q6)) q7 ⟨by rw [q6.2.1 11 (by decide)]; exact v1, v2, v3, ?_⟩)
    rw [q6.2.1 11 (by decide)]
    rcases v4 with ⟨v5, v6, v7, v8⟩ | ⟨f, v5, v6, v7, v8, v9⟩
    · exact Or.inl ⟨v5, v6, ss, ps, v7, rfl, v8⟩
    · exact Or.inr ⟨f, v5, v6, v7, v8, v9⟩
  have loop : ∀ (w i : Nat) (s1 : sT) (T1 : List Cond) (p1 k1 : Nat) (ss : List Cond), w + k1 = txt.length → i + k ≤ k1 → (∀ x ∈ ss, cn x) → wL ss + k ≤ k1 → tc s1 T1 p1 → (∃ e, T1 = T ++ e) → opO s1.1 T1 m (ddp [] (ss.flatMap sumL)) → T1.length ≤ T.length + 2 * (k1 - k) → 8 * p1 ≤ 8 * p + 3 * sq (k1 - k) + 8 * (k1 - k) → fR s s1 m → s1.1 11 3 = nI k1 → s1.1 11 4 = -1 → rd txt 0 [] [] [] true = rd (txt.drop k1) k1 ss [] bl true → (txt.drop k1).count 40 ≤ (txt.drop k).count 40 → tT (yY L xs) (d + 12) 23 13 [.ref 11, .int (nI dep), .int (nI m), .int 1, .int (nI i)] [] s1 K := by
    intro w
    induction w using Nat.strongRecOn with
    | _ w ih =>
      intro i s1 T1 p1 k1 ss hw hi a1 a2 g1 g2 g3 g4 g5 g6 g7 g8 hE1 hct
      have hR1 := tR_fR hR g6
      have hf := (flat_S a1).2.2
      have sqa := sq_add k (k1 - k)
      rw [show k + (k1 - k) = k1 by omega] at sqa
      refine b_23_13 ?_
      rw [if_neg (by decide)]
      refine ⟨so_11, ?_⟩
      rw [hR1.2.2.1, if_neg (by rw [nJ_lt (by omega) (by omega)]; omega)]
      refine ⟨1, ⟨so_11, rp_11_0 hR1.1⟩, so_11, c_readProduct (m := m + (ddp [] (ss.flatMap sumL)).length) (k := k1) (p := p1) (T := T1) hOK hS ⟨hR1, g1, g3.1, g7, g8, by omega, by omega, by omega, by omega, by omega⟩ (by omega) hE1 (fun s2 T2 p2 j x N k2 w1 w2 w3 w4 w5 w6 w7 w8 w9 w10 w11 => ?_)⟩
      rw [rt_some]
      obtain ⟨v1, v2, v3, v4⟩ := w11
      have hsl := (sh_z w4).2.2.1
      have z01x := z01 w4
      have hN68 : k1 + N ≤ 68 := by
        rcases v4 with ⟨-, v6, -⟩ | ⟨f, -, -, -, v8, v9⟩ <;> omega
      have o2 : opO s2.1 T2 m (ddp [] (ss.flatMap sumL)) := opO_at g3 w9.2.2.1 w10 w2
      refine b_23_36 ⟨so_1, c_addSummand w1 o2 (by omega) w3 (fun s3 u1 u2 u3 => ?_)⟩
      rw [rt_none]
      have efl : ddp [] ((ss ++ [x]).flatMap sumL) = ddp (ddp [] (ss.flatMap sumL)) (sumL x) := by rw [List.flatMap_append, List.flatMap_cons, List.flatMap_nil, List.append_nil, ddp_app]
      have a1' : ∀ y ∈ ss ++ [x], cn y := mem_snoc a1 w4
      have wl' : wL (ss ++ [x]) = wL ss + (z0 x + 1) := by rw [wL_app, wL_one]
      have f3 : fR s s3 m := fR_trans g6 (fR_trans (fR_mono w9 (by omega)) (fR_fT u3))
      have e11 : s3.1 11 = s2.1 11 := u3.2.1 11 (by decide)
      obtain ⟨e1, he1⟩ := g2
      obtain ⟨e2, he2⟩ := w2
      have pre : ∃ e, T2 = T ++ e := ⟨e1 ++ e2, by rw [he2, he1, List.append_assoc]⟩
      refine b_23_39 ⟨so_11, ?_⟩
      rw [e11]
      rcases v4 with ⟨v5, v6, ps, v7, vx, v8⟩ | ⟨f, v5, v6, v7, v8, v9⟩
      · rw [if_neg (fun q => q v5)]
        subst vx
        have nb0 : nb (txt.drop k2) = 0 := by
          cases e : txt.drop k2 with
          | nil => rfl
          | cons c r => exact nb_0 (v8 c r e).1
        have sqb := sq_add (k1 - k) N
        rw [show k1 - k + N = k2 - k by omega] at sqb
        have goEnd : ∀ (s4 : sT), nxS s3 s4 k2 → stopS (txt.drop k2) → tT (yY L xs) (d + 12) 23 60 [.ref 11, .int (nI dep), .int (nI m), .int 1, .int (nI i)] [] s4 K := by
          intro s4 y1 y2
          refine b_23_60 (b_23_61 ?_)
          rw [if_pos rfl]
          refine b_23_76 (b_23_13 ?_)
          rw [if_pos rfl]
          refine fin _ _ s4 T2 p2 (k2 - k) k2 ss ps a1' (by omega) (by omega) (by omega) (tc_nx u1 y1) pre ?_ (by omega) (by omega) (fR_trans f3 (fR_nx y1)) ⟨y1.2.2.2, by omega, v3, Or.inl ⟨by rw [y1.2.2.1 4 (by decide), e11]; exact v5, by omega, v7, y2⟩⟩
          rw [efl]
          exact opO_at u2 (fun u _ => by rw [y1.2.1 8 (by decide)]) (by rw [y1.2.1 1 (by decide)]; exact u2.1) ⟨[], (List.append_nil _).symm⟩
        refine ⟨so_11, c_next (txt.length - k2) k2 s3 (by omega) (tR_fR hR f3) (by rw [e11]; exact v1) (fun s4 y1 y2 => ?_) (fun s4 c r y1 y2 y3 => ?_)⟩
        · rw [nb0, Nat.add_zero] at y1 y2
          rw [rt_some]
          refine b_23_51 ?_
          rw [if_pos (by decide)]
          exact goEnd s4 y1 (fun c r e => by rw [y2] at e; cases e)
        · rw [nb0, Nat.add_zero] at y1 y2
          rw [rt_some]
          refine b_23_51 ?_
          obtain ⟨c1, c2, c3⟩ := v8 c r y2
          by_cases h43 : c = 43
          · rw [if_neg (fun q => q h43)]
            refine b_23_61 ?_
            rw [if_neg (by decide)]
            refine ⟨so_11, so_11, ?_⟩
            rw [y1.2.2.2, ← nI_succ]
            refine b_23_76 ?_
            rw [← nI_succ]
            subst h43
            have hk2l : k2 < txt.length := by
              refine Nat.lt_of_not_le (fun hge => ?_)
              rw [List.drop_eq_nil_of_le hge] at y2
              cases y2
            have er : r = txt.drop (k2 + 1) := by
              have := List.drop_eq_getElem_cons hk2l
              rw [y2] at this
              exact (List.cons.inj this).2
            have ctk : (txt.drop (k2 + 1)).count 40 ≤ (txt.drop k1).count 40 := by
              have : txt.drop (k2 + 1) = (txt.drop k1).drop (k2 + 1 - k1) := by rw [List.drop_drop, show k1 + (k2 + 1 - k1) = k2 + 1 by omega]
              rw [this]
              exact List.Sublist.count_le _ (List.drop_sublist _ _)
            have sm : sq (k2 - k) ≤ sq (k2 + 1 - k) := sq_mono (by omega)
            refine ih (txt.length - (k2 + 1)) (by omega) (i + 1) _ T2 p2 (k2 + 1) (ss ++ [sProd ps]) (by omega) (by omega) a1' (by omega) (tc_put11 (tc_nx u1 y1)) pre ?_ (by omega) (by omega) (fR_put (fR_trans f3 (fR_nx y1)) (by decide)) (by rw [pV_1, if_pos ⟨rfl, rfl⟩]) (by rw [pV_1, if_neg (by omega), y1.2.2.1 4 (by decide), e11]; exact v5) ?_ (by omega)
            · rw [efl]
              exact opO_at u2 (fun u _ => by rw [pV_1, if_neg (by omega), y1.2.1 8 (by decide)]) (by rw [pV_1, if_neg (by omega), y1.2.1 1 (by decide)]; exact u2.1) ⟨[], (List.append_nil _).symm⟩
            · rw [v7, y2, rd_plus, er]
          · rw [if_pos h43]
            exact goEnd s4 y1 (fun c' r' e => by
              rw [y2] at e; cases e
              exact ⟨c1, c2, c3, h43⟩)
      · rw [if_pos (by rw [v5]; exact nI_ne_neg (by omega))]
        refine b_23_60 (b_23_61 ?_)
        rw [if_pos rfl]
        refine b_23_76 (b_23_13 ?_)
        rw [if_pos rfl]
        have sqb := sq_add (k1 - k) N
        -- as a fault's product it stands for itself
        have ex : sProd (fac x) = x := sProd_fac w4
        refine fin _ _ s3 T2 p2 (k1 - k + N) k2 ss (fac x) (by rw [ex]; exact a1') (by rw [ex]; omega) (by omega) (by omega) u1 pre (by rw [ex, efl]; exact u2) (by omega) (by omega) f3 ⟨by rw [e11]; exact v1, by omega, v3, Or.inr ⟨f, by rw [e11]; exact v5, v6, v7, v8, by omega⟩⟩
  refine b_23_0 ⟨1, ⟨so_11, rp_11_0 hR.1⟩, so_1, c_mark h9 ?_⟩
  rw [rt_some]
  refine b_23_7 (loop (txt.length - k) 0 s T p k [] (by omega) (by omega) (fun x hx => by cases hx) (by show 0 + k ≤ k; omega) hT ⟨[], (List.append_nil _).symm⟩ ⟨h9, fun i c hc => by cases hc⟩ (by omega) (by omega) (fR_refl s m) h3 h4 hE (Nat.le_refl _))
/-- sums with up to q brackets to come -/
theorem c_sums (hOK : txt.length ≤ 30 ∨ ∀ f, rd txt 0 [] [] [] true ≠ .inl f) : ∀ q, sumOK L xs t txt (d + 4 * q + 8) q
  | 0 => fun s T p m k dep bl K _ h => absurd h (Nat.not_lt_zero _)
  | q + 1 => fun s T p m k dep bl K h1 h2 h3 h4 => c_readSum (d := d + 4 * q) hOK (c_sums hOK q) h1 (by omega) h3 h4
theorem tc_clear {v1 v2 v3 : Nat} (hP : rP s.2) (hA : tA0 s.1) : tc (pV (pV (pV s 1 7 5) 1 8 0) 1 9 0) T5 0 := by
  have r : ∀ z t, z ≠ 1 → (pV (pV (pV s 1 7 5) 1 8 0) 1 9 0).1 z t = s.1 z t := fun z t hz => by rw [pV_1, if_neg (by omega), pV_1, if_neg (by omega), pV_1, if_neg (by omega)]
  refine ⟨hP, by decide, by decide, fun _ => 0, ?_, ?_, by decide, fun y hy => ?_, fun k hk => ?_, fun k y hk hy => ?_, fun k y hy => ?_⟩
  · rw [pV_1, if_neg (by omega), pV_1, if_neg (by omega), pV_1, if_pos ⟨rfl, rfl⟩]; rfl
  · rw [pV_1, if_neg (by omega), pV_1, if_pos ⟨rfl, rfl⟩]; rfl
  · obtain ⟨k, hk⟩ := List.getElem?_of_mem hy
    obtain ⟨h1, h2⟩ := T5_at hk
    rw [h2]; exact h1
  · rcases (show k = 0 ∨ k = 1 ∨ k = 2 ∨ k = 3 ∨ k = 4 by omega) with rfl | rfl | rfl | rfl | rfl <;> rfl
  · have := (T5_at hy).1
    omega
  · obtain ⟨h1, h2⟩ := T5_at hy
    obtain ⟨a1, a2, a3, a4⟩ := hA k h1
    subst h2
    refine ⟨⟨by rw [r 2 k (by decide)]; exact a1, by rw [r 4 k (by decide)]; exact a2, ?_, by rw [r 6 k (by decide)]; exact a3, fun h => absurd h (show ¬ 1 ≤ 0 by decide), fun i c hc => by cases hc⟩, Nat.le_refl _⟩
    rw [r 5 k (by decide), a4]
    rcases (show k = 0 ∨ k = 1 ∨ k = 2 ∨ k = 3 ∨ k = 4 by omega) with rfl | rfl | rfl | rfl | rfl <;> rfl
theorem tA_tc {T : List Cond} {p : Nat} (h : tc s T p) : tA0 s.1 := by
  intro k hk
  have h5 := tc_5 h k hk
  obtain ⟨_, _, _, off, hN⟩ := h
  obtain ⟨⟨n1, n2, n3, n4, -⟩, -⟩ := hN.2.2.2.2.2.2 k _ h5
  refine ⟨n1, n2, n4, ?_⟩
  rw [n3]
  rcases (show k = 0 ∨ k = 1 ∨ k = 2 ∨ k = 3 ∨ k = 4 by omega) with rfl | rfl | rfl | rfl | rfl <;> rfl
/-- READING: what the class answers is what rd says -/
theorem c_read {cap size : Nat} (hP : rP s.2) (hA : tA s.1) (ht : t = 9 ∨ 61 < t) (hn : txt.length ≤ 68) (hx : tX (yY L xs) s.2 t cap) (hs : s.1 t 1 = nI size) (hs1 : txt.length ≤ size) (hs2 : size ≤ cap) (hb : ∀ i c, txt[i]? = some c → s.1 (t + 1) i = c) (hne : ∀ c ∈ txt, c ≠ -1) (h40 : txt.count 40 ≤ 40) (hOK : txt.length ≤ 30 ∨ ∀ f, rd txt 0 [] [] [] true ≠ .inl f)
    (h1 : ∀ s' f T p, rd txt 0 [] [] [] true = .inl f → f ≤ txt.length → tc s' T p → s'.2 = (pR s 11 1 (some t)).2 → (∀ z, (z = 0 ∨ 8 < z) → z ≠ 11 → s'.1 z = s.1 z) → s'.1 11 4 = nI f → K (some (-1)) s')
    (h2 : ∀ s' T p j x, rd txt 0 [] [] [] true = .inr x → cn x → z0 x ≤ txt.length → tc s' T p → T[j]? = some x → s'.2 = (pR s 11 1 (some t)).2 → (∀ z, (z = 0 ∨ 8 < z) → z ≠ 11 → s'.1 z = s.1 z) → s'.1 11 4 = -1 → K (some (nI j)) s') : tT (yY L xs) (d + 173) 22 0 [.ref 11, .ref t, .int (nI txt.length), .null] [] s K := by
  have hsz := rd_size txt 0 [] [] [] true rI_0
  generalize hs1' : pV (pV (pV (pR s 11 1 (some t)) 11 2 (nI txt.length)) 11 3 0) 11 4 (-1) = s1
  have hP1 : rP s1.2 := by
    rw [← hs1']
    show rP (pR s 11 1 (some t)).2
    unfold rP at hP ⊢
    simp only [pR_2]
    exact hP
  have o1 : ∀ z, z ≠ 11 → s1.1 z = s.1 z := fun z hz => by
    rw [← hs1']; funext u; rw [pV_1, if_neg (by omega), pV_1, if_neg (by omega), pV_1, if_neg (by omega)]; rfl
  have e2 : s1.2 = (pR s 11 1 (some t)).2 := by rw [← hs1']; rfl
  have hA1 : tA s1.1 := tA_off hA (fun i hi => o1 i (by omega))
  have tc1 := tc_clear (v1 := 0) (v2 := 0) (v3 := 0) hP1 hA1.1
  refine b_22_0 ⟨so_11, so_11, so_11, so_11, 1, ⟨so_11, rp_11_0 (show rP (pR s 11 1 (some t)).2 by rw [← e2]; exact hP1)⟩, so_1, ?_⟩
  rw [hs1']
  refine b_80_0 ⟨so_1, so_1, so_1, ?_⟩
  rw [rt_none]
  generalize hs2' : pV (pV (pV s1 1 7 5) 1 8 0) 1 9 0 = s2 at tc1
  have o2 : ∀ z, z ≠ 1 → s2.1 z = s1.1 z := fun z hz => by
    rw [← hs2']; funext u; rw [pV_1, if_neg (by omega), pV_1, if_neg (by omega), pV_1, if_neg (by omega)]
  have e2' : s2.2 = (pR s 11 1 (some t)).2 := by rw [← hs2']; exact e2
  have e112 : s2.1 11 2 = nI txt.length := by rw [o2 11 (by decide), ← hs1', pV_1, if_neg (by omega), pV_1, if_neg (by omega), pV_1, if_pos ⟨rfl, rfl⟩]
  have e113 : s2.1 11 3 = nI 0 := by rw [o2 11 (by decide), ← hs1', pV_1, if_neg (by omega), pV_1, if_pos ⟨rfl, rfl⟩]; rfl
  have e114 : s2.1 11 4 = -1 := by rw [o2 11 (by decide), ← hs1', pV_1, if_pos ⟨rfl, rfl⟩]
  have e19 : s2.1 1 9 = nI 0 := by rw [← hs2', pV_1, if_pos ⟨rfl, rfl⟩]; rfl
  have tR2 : tR L xs s2 t txt := by
    refine ⟨tc1.1, by rw [e2', pR_2, if_pos ⟨rfl, rfl⟩], e112, ht, hn, ⟨cap, size, ⟨hx.1, hx.2.1, ?_, hx.2.2.2⟩, ?_, hs1, hs2⟩, fun i c hc => ?_⟩
    · rw [e2', pR_2, if_neg (by omega)]; exact hx.2.2.1
    · rw [o2 t (by omega), o1 t (by omega)]; exact hs
    · rw [o2 (t + 1) (by omega), o1 (t + 1) (by omega)]; exact hb i c hc
  have fr : ∀ s', fR s2 s' 0 → (∀ z, (z = 0 ∨ 8 < z) → z ≠ 11 → s'.1 z = s.1 z) := fun s' g z hz h11 => by rw [g.2.1 z hz h11, o2 z (by omega), o1 z h11]
  refine b_22_27 ⟨so_11, ?_⟩
  refine (c_sums (d := d) (L := L) (xs := xs) (t := t) hOK 41) s2 T5 0 0 0 0 [] _ ⟨tR2, tc1, e19, e113, e114, by omega, by omega, by decide, by omega, by rw [List.drop_zero]; omega⟩ (by rw [List.drop_zero]; omega) (by rw [List.drop_zero]) (fun s' T' p' j x N k' w1 w2 w3 w4 w5 w6 w7 w8 w9 w10 w11 => ?_)
  rw [rt_some]
  obtain ⟨v1, v2, v3, v4⟩ := w11
  refine b_22_32 ⟨so_11, ?_⟩
  rcases v4 with ⟨v5, v6, ss, ps, v7, vx, v8⟩ | ⟨f, v5, v6, v7, v8, v9⟩
  · rw [if_neg (fun q => q v5)]
    have nb0 : nb (txt.drop k') = 0 := by
      cases e : txt.drop k' with
      | nil => rfl
      | cons c r => exact nb_0 (v8 c r e).1
    refine ⟨so_11, c_next (txt.length - k') k' s' (by omega) (tR_fR tR2 w9) v1 (fun s3 y1 y2 => ?_) (fun s3 c r y1 y2 y3 => ?_)⟩
    · rw [nb0, Nat.add_zero] at y1 y2
      rw [rt_some]
      refine b_22_45 ?_
      rw [if_pos rfl]
      refine b_22_57 ⟨so_11, ?_⟩
      have e4 : s3.1 11 4 = -1 := by rw [y1.2.2.1 4 (by decide)]; exact v5
      rw [if_neg (fun q => q e4)]
      have hB : rd txt 0 [] [] [] true = .inr x := by rw [v7, y2, rd_end, vx]
      have := hsz.1 x hB
      exact h2 s3 T' p' j x hB this.1 (by omega) (tc_nx w1 y1) w3 (by rw [y1.1, w9.1, e2']) (fr s3 (fR_trans w9 (fR_nx y1))) e4
    · rw [nb0, Nat.add_zero] at y1 y2
      rw [rt_some]
      obtain ⟨c1, c2, c3, c4⟩ := v8 c r y2
      refine b_22_45 ?_
      have hcm : c ∈ txt := List.mem_of_mem_drop (i := k') (by rw [y2]; exact List.mem_cons_self)
      rw [if_neg (hne c hcm)]
      refine ⟨so_11, so_11, ?_⟩
      rw [y1.2.2.2]
      refine b_22_57 ⟨so_11, ?_⟩
      have e4 : (pV s3 11 4 (nI k')).1 11 4 = nI k' := by rw [pV_1, if_pos ⟨rfl, rfl⟩]
      rw [if_pos (by rw [e4]; exact nI_ne_neg (by omega))]
      have hB : rd txt 0 [] [] [] true = .inl k' := by
        rw [v7, y2, rd_none c1 (begA_no c2).1, if_neg (begA_no c2).2, if_neg (by decide), if_neg c3, if_neg c4]
        split <;> rfl
      exact h1 _ k' T' p' hB v3 (tc_put11 (tc_nx w1 y1)) (show s3.2 = _ by rw [y1.1, w9.1, e2']) (fr _ (fR_put (fR_trans w9 (fR_nx y1)) (by decide))) e4
  · rw [if_pos (by rw [v5]; exact nI_ne_neg (by omega))]
    refine b_22_57 ⟨so_11, ?_⟩
    rw [if_pos (by rw [v5]; exact nI_ne_neg (by omega))]
    exact h1 s' f T' p' v7 v6 w1 (by rw [w9.1, e2']) (fr s' w9) v5
end RH
