/-! READING, BY THE CLASS: products, sums, all -/
theorem S0_flat {ps : List Cond} (h : ∀ x ∈ ps, cn x) : S0 ∈ ps.flatMap prodL ↔ S0 ∈ ps := by
  constructor
  · intro q
    obtain ⟨x, hx, hy⟩ := List.mem_flatMap.mp q
    by_cases e : x = S0
    · rw [← e]; exact hx
    · exact absurd rfl (cn_prodL (h x hx) e S0 hy).2.2.1
  · intro q
    exact List.mem_flatMap.mpr ⟨S0, q, by rw [prodL_S0]; exact List.mem_cons_self⟩
theorem flat_P {ps : List Cond} (h : ∀ x ∈ ps, cn x) : ∀ y ∈ ps.flatMap prodL, y ≠ S0 → cn y ∧ isProd y = false ∧ y ≠ S1 := by
  intro y hy h0
  obtain ⟨x, hx, hy⟩ := List.mem_flatMap.mp hy
  by_cases e : x = S0
  · rw [e, prodL_S0] at hy
    exact absurd (List.mem_singleton.mp hy) h0
  · have := cn_prodL (h x hx) e y hy
    exact ⟨this.1, this.2.1, this.2.2.2⟩
theorem sProd_flat {ps : List Cond} (h : ∀ x ∈ ps, cn x) : (if S0 ∈ ps.flatMap prodL then S0 else mkP (ps.flatMap prodL)) = sProd ps := by
  unfold sProd
  by_cases e : S0 ∈ ps
  · rw [if_pos e, if_pos ((S0_flat h).mpr e)]
  · rw [if_neg e, if_neg (fun q => e ((S0_flat h).mp q))]
theorem opO_at {v v' : Nat → Nat → Int32} {T T' : List Cond} {m : Nat} {l : List Cond} (h : opO v T m l) (h8 : ∀ u, u < m + l.length → v' 8 u = v 8 u) (h9 : v' 1 9 = nI (m + l.length)) (hT : ∃ e, T' = T ++ e) : opO v' T' m l := by
  obtain ⟨e, rfl⟩ := hT
  refine ⟨h9, fun i c hc => ?_⟩
  have hi := (List.getElem?_eq_some_iff.mp hc).1
  obtain ⟨j, j1, j2⟩ := h.2 i c hc
  exact ⟨j, app_at j1, by rw [h8 _ (by omega)]; exact j2⟩
section RG
variable {L : Nat} {xs : Nat → Int32} {d : Nat} {s : sT} {K : Option Int32 → sT → Prop} {t : Nat} {txt : List Int32}
/-- no product goes on here -/
def stopP (r : List Int32) : Prop := ∀ c r', r = c :: r' → c ≠ 32 ∧ begA c = false ∧ c ≠ 42
def prodK (txt : List Int32) (s : sT) (T : List Cond) (p m k : Nat) (ss : List Cond) (bl : List (List Cond × List Cond)) (K : Option Int32 → sT → Prop) : Prop := ∀ s' T' p' j x N k', tc s' T' p' → (∃ e, T' = T ++ e) → T'[j]? = some x → cn x → 1 ≤ N → z1 x ≤ N → T'.length + 1 ≤ T.length + 2 * N → 8 * p' ≤ 8 * p + 3 * sq N + 8 * N → fR s s' m → s'.1 1 9 = nI m → rO txt k k' N s' (∃ ps, rd txt 0 [] [] [] true = rd (txt.drop k') k' ss ps bl false ∧ x = sProd ps ∧ stopP (txt.drop k')) → K (some (nI j)) s'
theorem c_mark {m : Nat} (h : s.1 1 9 = nI m) (hK : K (some (nI m)) s) : tT (yY L xs) d 87 0 [.ref 1] [] s K := b_87_0 ⟨so_1, by rw [h]; exact hK⟩
theorem c_readProduct {T : List Cond} {p m k dep q : Nat} {ss : List Cond} {bl : List (List Cond × List Cond)} (hOK : txt.length ≤ 30 ∨ ∀ f, rd txt 0 [] [] [] true ≠ .inl f) (hS : sumOK L xs t txt (d + 8) q) (h : rdP L xs t txt s T p m k dep) (hq : (txt.drop k).count 40 ≤ q) (hE : rd txt 0 [] [] [] true = rd (txt.drop k) k ss [] bl true)
    (hK : prodK txt s T p m k ss bl K) : tT (yY L xs) (d + 11) 24 0 [.ref 11, .int (nI dep), .null, .null, .null] [] s K := by
  have h' := h
  obtain ⟨hR, hT, h9, h3, h4, hk, hm, hTl, hp, hd⟩ := h'
  have hn := hR.2.2.2.2.1
  -- the close, with a fault or without
  have fin : ∀ (i x3 : Int32) (s1 : sT) (T1 : List Cond) (p1 N k1 : Nat) (ps : List Cond), (∀ x ∈ ps, cn x) → ps ≠ [] → wP ps ≤ N → k + N ≤ 68 → tc s1 T1 p1 → (∃ e, T1 = T ++ e) → opO s1.1 T1 m (ps.flatMap prodL) → T1.length + 2 ≤ T.length + 2 * N → 8 * p1 ≤ 8 * p + 3 * sq N → fR s s1 m → rO txt k k1 N s1 (rd txt 0 [] [] [] true = rd (txt.drop k1) k1 ss ps bl false ∧ stopP (txt.drop k1)) → tT (yY L xs) (d + 11) 24 68 [.ref 11, .int (nI dep), .int (nI m), .int x3, .int i] [] s1 K := by
    intro i x3 s1 T1 p1 N k1 ps a1 a2 a3 a4 g1 g2 g3 g4 g5 g6 g7
    have hf := wP_flat a1
    have hz := z_sProd a1 a2
    have cs := cn_sProd a1
    have z01s := z01 cs
    have sqa := sq_add k N
    have sq68 := sq_68 (a := k + N) a4
    have e0 := sProd_flat a1
    have h1N : 1 ≤ N := by
      cases ps with
      | nil => exact absurd rfl a2
      | cons x l =>
        have := z2_1 (a1 x List.mem_cons_self)
        have : z2 x + wP l ≤ N := a3
        omega
    refine b_24_68 ⟨1, ⟨so_11, rp_11_0 (tR_fR hR g6).1⟩, so_1, c_closeProduct g1 g3 (by omega) (flat_P a1) (fun e => ?_) (by omega) (by omega) (fun s' T' p' j q1 q2 q3 q4 q5 q6 q7 => ?_)⟩
    · rw [if_neg e] at e0
      rw [e0]; omega
    · rw [rt_some]
      rw [e0] at q5
      obtain ⟨e1, he1⟩ := g2
      obtain ⟨e2, he2⟩ := q2
      obtain ⟨v1, v2, v3, v4⟩ := g7
      refine b_24_76 (hK s' T' p' j (sProd ps) N k1 q1 ⟨e1 ++ e2, by rw [he2, he1, List.append_assoc]⟩ q5 cs h1N (by omega) (by omega) (by omega) (fR_trans g6 (fR_fT q6)) q7 ⟨by rw [q6.2.1 11 (by decide)]; exact v1, v2, v3, ?_⟩)
      rw [q6.2.1 11 (by decide)]
      rcases v4 with ⟨v5, v6, v7, v8⟩ | ⟨f, v5, v6, v7, v8, v9⟩
      · exact Or.inl ⟨v5, v6, ps, v7, rfl, v8⟩
      · exact Or.inr ⟨f, v5, v6, v7, v8, v9⟩
  have loop : ∀ (w i : Nat) (s1 : sT) (T1 : List Cond) (p1 k1 : Nat) (ps : List Cond) (mu : Bool), w + k1 = txt.length → i + k ≤ k1 → (∀ x ∈ ps, cn x) → wP ps + k ≤ k1 → tc s1 T1 p1 → (∃ e, T1 = T ++ e) → opO s1.1 T1 m (ps.flatMap prodL) → T1.length ≤ T.length + 2 * (k1 - k) → 8 * p1 ≤ 8 * p + 3 * sq (k1 - k) → fR s s1 m → s1.1 11 3 = nI k1 → s1.1 11 4 = -1 → rd txt 0 [] [] [] true = rd (txt.drop k1) k1 ss ps bl mu → (mu = true ∨ ∃ c r, txt.drop k1 = c :: r ∧ begA c = true) → (txt.drop k1).count 40 ≤ (txt.drop k).count 40 → tT (yY L xs) (d + 11) 24 13 [.ref 11, .int (nI dep), .int (nI m), .int 1, .int (nI i)] [] s1 K := by
    intro w
    induction w using Nat.strongRecOn with
    | _ w ih =>
      intro i s1 T1 p1 k1 ps mu hw hi a1 a2 g1 g2 g3 g4 g5 g6 g7 g8 hE1 hmu hct
      have hR1 := tR_fR hR g6
      have hf := wP_flat a1
      have sqa := sq_add k (k1 - k)
      rw [show k + (k1 - k) = k1 by omega] at sqa
      refine b_24_13 ?_
      rw [if_neg (by decide)]
      refine ⟨so_11, ?_⟩
      rw [hR1.2.2.1, if_neg (by rw [nJ_lt (by omega) (by omega)]; omega)]
      refine ⟨1, ⟨so_11, rp_11_0 hR1.1⟩, so_11, c_readFactor (m := m + (ps.flatMap prodL).length) (k := k1) (p := p1) (T := T1) (ps := ps) (mu := mu) hOK hS ⟨hR1, g1, g3.1, g7, g8, by omega, by omega, by omega, by omega, by omega⟩ (by omega) hE1 hmu (fun s2 T2 p2 j x N k2 w1 w2 w3 w4 w5 w6 w7 w8 w9 w10 w11 => ?_)⟩
      rw [rt_some]
      obtain ⟨v1, v2, v3, v4⟩ := w11
      have hz2 := z12 w4
      have hpl := (sh_z w4).2.2.2
      have z01x := z01 w4
      have hN68 : k1 + N ≤ 68 := by
        rcases v4 with ⟨-, v6, -⟩ | ⟨f, -, -, -, v8, v9⟩ <;> omega
      have o2 : opO s2.1 T2 m (ps.flatMap prodL) := opO_at g3 w9.2.2.1 w10 w2
      refine b_24_35 ⟨so_1, c_addFactor w1 o2 (by omega) w3 (fun s3 u1 u2 u3 => ?_)⟩
      rw [rt_none]
      have efl : (ps ++ [x]).flatMap prodL = ps.flatMap prodL ++ prodL x := by rw [List.flatMap_append, List.flatMap_cons, List.flatMap_nil, List.append_nil]
      have a1' : ∀ y ∈ ps ++ [x], cn y := mem_snoc a1 w4
      have wp' : wP (ps ++ [x]) = wP ps + z2 x := by rw [wP_app, wP_one]
      have f3 : fR s s3 m := fR_trans g6 (fR_trans (fR_mono w9 (by omega)) (fR_fT u3))
      have e11 : s3.1 11 = s2.1 11 := u3.2.1 11 (by decide)
      obtain ⟨e1, he1⟩ := g2
      obtain ⟨e2, he2⟩ := w2
      have pre : ∃ e, T2 = T ++ e := ⟨e1 ++ e2, by rw [he2, he1, List.append_assoc]⟩
      refine b_24_38 ⟨so_11, ?_⟩
      rw [e11]
      rcases v4 with ⟨v5, v6, v7, v8⟩ | ⟨f, v5, v6, v7, v8, v9⟩
      · rw [if_neg (fun q => q v5)]
        have hkb : k2 + nb (txt.drop k2) ≤ txt.length := by
          have := nb_le (txt.drop k2)
          rw [List.length_drop] at this
          omega
        have nb0 : nb (txt.drop k2) = 0 := by
          cases e : txt.drop k2 with
          | nil => rfl
          | cons c r => exact nb_0 (v8 c r e).1
        have sqb := sq_add (k1 - k) N
        rw [show k1 - k + N = k2 - k by omega] at sqb
        have T2b : T2.length + 2 ≤ T.length + 2 * (k2 - k) := by omega
        have p2b : 8 * p2 ≤ 8 * p + 3 * sq (k2 - k) := by omega
        have goEnd : ∀ (s4 : sT), nxS s3 s4 k2 → stopP (txt.drop k2) → tT (yY L xs) (d + 11) 24 60 [.ref 11, .int (nI dep), .int (nI m), .int 1, .int (nI i)] [] s4 K := by
          intro s4 y1 y2
          refine b_24_60 (b_24_61 (b_24_13 ?_))
          rw [if_pos rfl]
          refine fin _ _ s4 T2 p2 (k2 - k) k2 (ps ++ [x]) a1' (by simp) (by omega) (by omega) (tc_nx u1 y1) pre ?_ T2b p2b (fR_trans f3 (fR_nx y1)) ⟨y1.2.2.2, by omega, v3, Or.inl ⟨by rw [y1.2.2.1 4 (by decide), e11]; exact v5, by omega, v7, y2⟩⟩
          rw [efl]
          exact opO_at u2 (fun u _ => by rw [y1.2.1 8 (by decide)]) (by rw [y1.2.1 1 (by decide)]; exact u2.1) ⟨[], (List.append_nil _).symm⟩
        refine ⟨so_11, c_next (txt.length - k2) k2 s3 (by omega) (tR_fR hR f3) (by rw [e11]; exact v1) (fun s4 y1 y2 => ?_) (fun s4 c r y1 y2 y3 => ?_)⟩
        · rw [nb0, Nat.add_zero] at y1 y2
          rw [rt_some]
          refine b_24_50 (c_begins ?_)
          rw [rt_some]
          refine b_24_53 ?_
          rw [if_pos (show bz (begA (-1)) = 0 from rfl)]
          exact goEnd s4 y1 (fun c r e => by rw [y2] at e; cases e)
        · rw [nb0, Nat.add_zero] at y1 y2
          rw [rt_some]
          refine b_24_50 (c_begins ?_)
          rw [rt_some]
          refine b_24_53 ?_
          cases hb : begA c with
          | false =>
            rw [if_pos (show bz false = 0 from rfl)]
            exact goEnd s4 y1 (fun c' r' e => by
              rw [y2] at e; cases e
              exact ⟨y3, hb, (v8 c r y2).2⟩)
          | true =>
            rw [if_neg (show ¬ bz true = 0 by decide)]
            refine b_24_61 ?_
            rw [← nI_succ]
            have ctk : (txt.drop k2).count 40 ≤ (txt.drop k1).count 40 := by
              have : txt.drop k2 = (txt.drop k1).drop (k2 - k1) := by rw [List.drop_drop, show k1 + (k2 - k1) = k2 by omega]
              rw [this]
              exact List.Sublist.count_le _ (List.drop_sublist _ _)
            refine ih (txt.length - k2) (by omega) (i + 1) s4 T2 p2 k2 (ps ++ [x]) false (by omega) (by omega) a1' (by omega) (tc_nx u1 y1) pre ?_ (by omega) p2b (fR_trans f3 (fR_nx y1)) y1.2.2.2 (by rw [y1.2.2.1 4 (by decide), e11]; exact v5) v7 (Or.inr ⟨c, r, y2, hb⟩) (by omega)
            rw [efl]
            exact opO_at u2 (fun u _ => by rw [y1.2.1 8 (by decide)]) (by rw [y1.2.1 1 (by decide)]; exact u2.1) ⟨[], (List.append_nil _).symm⟩
      · rw [if_pos (by rw [v5]; exact nI_ne_neg (by omega))]
        refine b_24_60 (b_24_61 (b_24_13 ?_))
        rw [if_pos rfl]
        have sqb := sq_add (k1 - k) N
        refine fin _ _ s3 T2 p2 (k1 - k + N) k2 (ps ++ [x]) a1' (by simp) (by omega) (by omega) u1 pre (by rw [efl]; exact u2) (by omega) (by omega) f3 ⟨by rw [e11]; exact v1, by omega, v3, Or.inr ⟨f, by rw [e11]; exact v5, v6, v7, v8, by omega⟩⟩
  refine b_24_0 ⟨1, ⟨so_11, rp_11_0 hR.1⟩, so_1, c_mark h9 ?_⟩
  rw [rt_some]
  refine b_24_7 (loop (txt.length - k) 0 s T p k [] true (by omega) (by omega) (fun x hx => by cases hx) (by show 0 + k ≤ k; omega) hT ⟨[], (List.append_nil _).symm⟩ ⟨h9, fun i c hc => by cases hc⟩ (by omega) (by omega) (fR_refl s m) h3 h4 hE (Or.inl rfl) (Nat.le_refl _))
end RG
