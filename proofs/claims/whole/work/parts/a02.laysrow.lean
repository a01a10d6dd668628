/-! THE TERMS OF A SIDE, by the reference -/
theorem at_idx {A : List Cond} {c : Cond} (h : c ∈ A) : A[A.idxOf c]? = some c := by
  have hl := List.idxOf_lt_length_of_mem h
  rw [List.getElem?_eq_getElem hl, List.getElem_idxOf hl]
theorem idx_at {A : List Cond} {i : Nat} {c : Cond} (hn : A.Nodup) (h : A[i]? = some c) : A.idxOf c = i := by
  have hm := List.mem_of_getElem? h
  exact (List.getElem?_inj (List.idxOf_lt_length_of_mem hm) hn).mp ((at_idx hm).trans h.symm)
theorem idx_app {A e : List Cond} {c : Cond} (h : c ∈ A) : (A ++ e).idxOf c = A.idxOf c := by
  rw [List.idxOf_append, if_pos h]
theorem idx_new {A : List Cond} {c : Cond} (h : c ∉ A) : (A ++ [c]).idxOf c = A.length := by
  rw [List.idxOf_append, if_neg h, List.idxOf_cons_self]; omega
theorem fold_ext {f g : Cond → Int32} : ∀ {l : List Cond} {a : Int32}, (∀ z ∈ l, f z = g z) → l.foldl (fun a z => a ||| f z) a = l.foldl (fun a z => a ||| g z) a
  | [], _, _ => rfl
  | z :: l, a, h => by
    rw [List.foldl_cons, List.foldl_cons, h z List.mem_cons_self]
    exact fold_ext (fun w hw => h w (List.mem_cons_of_mem _ hw))
/-- the terms so far -/
def tmO (v : Nat → Nat → Int32) (T : List Cond) (σ : Nat) (A : List Cond) : Prop := A.Nodup ∧ A.length ≤ 31 ∧ v 211 σ = nI A.length ∧ ∀ i c, A[i]? = some c → ∃ j, T[j]? = some c ∧ v 210 (31 * σ + i) = nI j
/-- the parts of term k by letter x -/
def rowO (v : Nat → Nat → Int32) (σ : Nat) (A : List Cond) (k x : Nat) (y : Cond) : Prop := v 214 (3 * (31 * σ + k) + x) = nI (pt y x).length ∧ (∀ i c, (pt y x)[i]? = some c → c ∈ A ∧ v 213 (31 * (3 * (31 * σ + k) + x) + i) = nI (A.idxOf c)) ∧ v 212 (3 * (31 * σ + k) + x) = (pt y x).foldl (fun a z => a ||| bitI (A.idxOf z)) 0
theorem rowO_ext {v v' : Nat → Nat → Int32} {σ k x : Nat} {A e : List Cond} {y : Cond} (hl : (pt y x).length ≤ 31) (h : rowO v σ A k x y) (h4 : v' 214 (3 * (31 * σ + k) + x) = v 214 (3 * (31 * σ + k) + x)) (h2 : v' 212 (3 * (31 * σ + k) + x) = v 212 (3 * (31 * σ + k) + x)) (h3 : ∀ i, i < 31 → v' 213 (31 * (3 * (31 * σ + k) + x) + i) = v 213 (31 * (3 * (31 * σ + k) + x) + i)) : rowO v' σ (A ++ e) k x y := by
  obtain ⟨a1, a2, a3⟩ := h
  refine ⟨h4.trans a1, fun i c hc => ?_, ?_⟩
  · have hi := (List.getElem?_eq_some_iff.mp hc).1
    obtain ⟨b1, b2⟩ := a2 i c hc
    exact ⟨List.mem_append_left _ b1, by rw [h3 i (by omega), idx_app b1]; exact b2⟩
  · rw [h2, a3]
    refine fold_ext (fun z hz => ?_)
    obtain ⟨i, hi⟩ := List.getElem?_of_mem hz
    rw [idx_app (a2 i z hi).1]
theorem tmO_ext {v v' : Nat → Nat → Int32} {T T' : List Cond} {σ : Nat} {A : List Cond} (h : tmO v T σ A) (hT : ∃ e, T' = T ++ e) (h1 : v' 211 σ = v 211 σ) (h0 : ∀ i, i < 31 → v' 210 (31 * σ + i) = v 210 (31 * σ + i)) : tmO v' T' σ A := by
  obtain ⟨a0, a1, a2, a3⟩ := h
  obtain ⟨e, rfl⟩ := hT
  refine ⟨a0, a1, h1.trans a2, fun i c hc => ?_⟩
  have hi := (List.getElem?_eq_some_iff.mp hc).1
  obtain ⟨j, j1, j2⟩ := a3 i c hc
  exact ⟨j, app_at j1, by rw [h0 i (by omega)]; exact j2⟩
section LR
variable {L : Nat} {xs : Nat → Int32} {d : Nat} {s : sT} {K : Option Int32 → sT → Prop}
theorem r_termBy {T A : List Cond} {σ j : Nat} {c : Cond} (hM : rM s.2) (hn : T.Nodup) (hT : T.length ≤ 1500) (hσ : σ < 2) (ht : tmO s.1 T σ A) (hj : T[j]? = some c) (h1 : c ∈ A → K (some (nI (A.idxOf c))) s) (h2 : c ∉ A → K (some (-1)) s) : tT (yY L xs) d 177 0 [.ref 186, .int (nI σ), .int (nI j), .null] [] s K := by
  obtain ⟨a0, a1, a2, a3⟩ := ht
  have hjl := (List.getElem?_eq_some_iff.mp hj).1
  have loop : ∀ q i, q + i = A.length → (∀ t, t < i → A[t]? ≠ some c) → tT (yY L xs) d 177 2 [.ref 186, .int (nI σ), .int (nI j), .int (nI i)] [] s K := by
    intro q
    induction q with
    | zero =>
      intro i hi hn'
      refine b_177_2 ⟨211, ⟨so_186, rm_186_35 hM⟩, 2, ⟨sa_211, inR_nI hσ (by decide)⟩, ?_⟩
      rw [nI_cl (by omega), a2, if_pos (by rw [nJ_le (by omega) (by omega)]; omega)]
      refine h2 (fun hc => ?_)
      obtain ⟨t, ht⟩ := List.getElem?_of_mem hc
      have := (List.getElem?_eq_some_iff.mp ht).1
      exact hn' t (by omega) ht
    | succ q ih =>
      intro i hi hn'
      have hi' : i < A.length := by omega
      obtain ⟨j', g1, g2⟩ := a3 i _ (List.getElem?_eq_getElem hi')
      have hjl' := (List.getElem?_eq_some_iff.mp g1).1
      refine b_177_2 ⟨211, ⟨so_186, rm_186_35 hM⟩, 2, ⟨sa_211, inR_nI hσ (by decide)⟩, ?_⟩
      rw [nI_cl (by omega), a2, if_neg (by rw [nJ_le (by omega) (by omega)]; omega)]
      refine ⟨210, ⟨so_186, rm_186_34 hM⟩, 62, ?_⟩
      rw [nI_lit 31, nJ_mul, nJ_add, nI_cl (show 31 * σ + i < 2147483648 by omega), g2]
      refine ⟨⟨sa_210, inR_nI (by omega) (by decide)⟩, ?_⟩
      by_cases e : j' = j
      · rw [if_neg (by rw [e]; exact fun q => q rfl)]
        rw [e, hj] at g1
        have hc : A[i]? = some c := by rw [List.getElem?_eq_getElem hi', g1]
        have := h1 (List.mem_of_getElem? hc)
        rw [idx_at a0 hc] at this
        exact this
      · rw [if_pos (by rw [nJ_eq (by omega) (by omega)]; exact e)]
        have := ih (i + 1) (by omega) (fun t ht => by
          by_cases et : t = i
          · subst et
            rw [List.getElem?_eq_getElem hi']
            intro q
            cases q
            exact e ((List.getElem?_inj hjl' hn).mp (g1.trans hj.symm))
          · exact hn' t (by omega))
        rw [nI_succ] at this
        exact this
  exact b_177_0 (loop A.length 0 rfl (fun t ht => absurd ht (Nat.not_lt_zero _)))
/-- frame of a row -/
def fl (s s' : sT) (σ r : Nat) : Prop := fk s s' ∧ (∀ z, 214 < z → s'.1 z = s.1 z) ∧ (∀ t, t ≠ r → s'.1 212 t = s.1 212 t ∧ s'.1 214 t = s.1 214 t) ∧ (∀ t, (t < 31 * r ∨ 31 * r + 31 ≤ t) → s'.1 213 t = s.1 213 t) ∧ (∀ t, (t < 31 * σ ∨ 31 * σ + 31 ≤ t) → s'.1 210 t = s.1 210 t) ∧ ∀ t, t ≠ σ → s'.1 211 t = s.1 211 t
theorem fl_put {s1 : sT} {σ r c i : Nat} {v : Int32} (h : fl s s1 σ r) (hc : ((c = 212 ∨ c = 214) ∧ i = r) ∨ (c = 213 ∧ 31 * r ≤ i ∧ i < 31 * r + 31) ∨ (c = 210 ∧ 31 * σ ≤ i ∧ i < 31 * σ + 31) ∨ (c = 211 ∧ i = σ)) : fl s (pV s1 c i v) σ r := by
  obtain ⟨h1, h2, h3, h4, h5, h6⟩ := h
  refine ⟨fk_put h1 (by omega), fun z hz => ?_, fun t ht => ⟨?_, ?_⟩, fun t ht => ?_, fun t ht => ?_, fun t ht => ?_⟩
  · rw [← h2 z hz]; funext t; rw [pV_1, if_neg (by omega)]
  · rw [pV_1, if_neg (by omega)]; exact (h3 t ht).1
  · rw [pV_1, if_neg (by omega)]; exact (h3 t ht).2
  · rw [pV_1, if_neg (by omega)]; exact h4 t ht
  · rw [pV_1, if_neg (by omega)]; exact h5 t ht
  · rw [pV_1, if_neg (by omega)]; exact h6 t ht
theorem fl_gq {s1 : sT} {T T1 : List Cond} {σ r : Nat} (h : gq s s1 T T1) : fl s s1 σ r := by
  refine ⟨h.1, fun z hz => h.2.1 z (by omega) (by omega) (by omega), fun t _ => ⟨?_, ?_⟩, fun t _ => ?_, fun t _ => ?_, fun t _ => ?_⟩
  · rw [h.2.1 212 (by decide) (by decide) (by decide)]
  · rw [h.2.1 214 (by decide) (by decide) (by decide)]
  · rw [h.2.1 213 (by decide) (by decide) (by decide)]
  · rw [h.2.1 210 (by decide) (by decide) (by decide)]
  · rw [h.2.1 211 (by decide) (by decide) (by decide)]
theorem ddp_lt {A B C : List Cond} : (ddp A B).length ≤ (ddp A (B ++ C)).length := by
  rw [ddp_app]
  obtain ⟨e, he⟩ := ddp_pre (ddp A B) C
  rw [he, List.length_append]; omega
theorem ddp_one (A : List Cond) (c : Cond) : ddp A [c] = if c ∈ A then A else A ++ [c] := by rw [ddp_cons]; rfl
/-- A ROW: the parts of term k by letter x -/
theorem r_laysRow {T U A : List Cond} {P σ k x : Nat} {y : Cond} {W : Cond → Prop} (hA : am s T U P) (hU : uO U) (hW : clW U W) (hσ : σ < 2) (ht : tmO s.1 T σ A) (hk : A[k]? = some y) (hx : x < 3) (hy : W y) (h31 : (ddp A (pt y x)).length ≤ 31)
    (h : ∀ s' T' P', am s' T' U P' → (∃ e, T' = T ++ e) → fl s s' σ (3 * (31 * σ + k) + x) → tmO s'.1 T' σ (ddp A (pt y x)) → rowO s'.1 σ (ddp A (pt y x)) k x y → K none s') : tT (yY L xs) (d + 7) 179 0 [.ref 186, .int (nI σ), .int (nI k), .int (nI x), .null, .null, .null, .null, .null] [] s K := by
  have hkA := (List.getElem?_eq_some_iff.mp hk).1
  have hA31 := ht.2.1
  obtain ⟨j, j1, j2⟩ := ht.2.2.2 k y hk
  have hjl := (List.getElem?_eq_some_iff.mp j1).1
  have hlen := am_len hA hU
  refine b_179_0 ⟨210, ⟨so_186, rm_186_34 hA.1.1⟩, 62, ?_⟩
  rw [nI_lit 31, nJ_mul, nJ_add, nI_cl (show 31 * σ + k < 2147483648 by omega), j2]
  refine ⟨⟨sa_210, inR_nI (by omega) (by decide)⟩, so_186, r_needs hA hU hW j1 hx hy (fun s1 T1 P1 q1 q2 q3 => ?_)⟩
  rw [rt_none]
  have hlen1 := am_len q1 hU
  have hP1 := plO_le q1.2.2
  obtain ⟨e1, he1⟩ := q2.2.2.1
  have j1' : T1[j]? = some y := by rw [he1]; exact app_at j1
  have hjl1 := (List.getElem?_eq_some_iff.mp j1').1
  have hla : laidO s1.1 T1 P1 j y x := by
    rcases q1.2.2.2.2 j y x j1' hx with q | q
    · exact absurd q q3
    · exact q
  have hp30 := hla.1
  have hpt := pt_pt3 y hx
  generalize hr : 3 * (31 * σ + k) + x = r at h
  have hr186 : r < 186 := by omega
  have crr : (nI r).toNatClampNeg = r := nI_cl (by omega)
  have inr : inR (nI r) 186 := inR_nI hr186 (by decide)
  have bnd : ∀ i, (ddp A ((pt y x).take i)).length ≤ 31 := fun i => by
    have := ddp_lt (A := A) (B := (pt y x).take i) (C := (pt y x).drop i)
    rw [List.take_append_drop] at this
    omega
  have loop : ∀ q i (s2 : sT) (u7 u8 : Value), q + i = (pt y x).length → fl s s2 σ r → (∀ z, z < 210 → s2.1 z = s1.1 z) → am s2 T1 U P1 → tmO s2.1 T1 σ (ddp A ((pt y x).take i)) → s2.1 214 r = nI (pt y x).length → (∀ i' c, i' < i → (pt y x)[i']? = some c → c ∈ ddp A ((pt y x).take i) ∧ s2.1 213 (31 * r + i') = nI ((ddp A ((pt y x).take i)).idxOf c)) → s2.1 212 r = ((pt y x).take i).foldl (fun a z => a ||| bitI ((ddp A ((pt y x).take i)).idxOf z)) 0 → tT (yY L xs) (d + 7) 179 61 [.ref 186, .int (nI σ), .int (nI k), .int (nI x), .int (nI j), .int (nI r), .int (nI i), u7, u8] [] s2 K := by
    intro q
    induction q with
    | zero =>
      intro i s2 u7 u8 hi g1 g2 g3 g4 g5 g6 g7
      have ei : i = (pt y x).length := by omega
      refine b_179_61 ⟨198, ⟨so_186, rm_186_15 g3.1.1⟩, 4500, ?_⟩
      rw [nI_lit 3, nJ_mul, nJ_add, nI_cl (show 3 * j + x < 2147483648 by omega), g2 198 (by decide), hla.2.1]
      refine ⟨⟨sa_198, inR_nI (by omega) (by decide)⟩, ?_⟩
      rw [if_pos (by rw [nJ_le (by omega) (by omega)]; omega)]
      rw [ei, List.take_length] at g4 g6 g7
      refine h s2 T1 P1 g3 ⟨e1, he1⟩ g1 g4 ⟨by rw [hr]; exact g5, fun i' c hc => ?_, by rw [hr]; exact g7⟩
      rw [hr]
      exact g6 i' c (List.getElem?_eq_some_iff.mp hc).1 hc
    | succ q ih =>
      intro i s2 u7 u8 hi g1 g2 g3 g4 g5 g6 g7
      have hi' : i < (pt y x).length := by omega
      have hc := List.getElem?_eq_getElem hi'
      have hla2 : laidO s2.1 T1 P1 j y x := by
        have := laidO_T (e := []) (v' := s2.1) hla (Nat.le_refl _) (by rw [g2 198 (by decide)]) (by rw [g2 197 (by decide)]) (fun t _ => by rw [g2 199 (by decide)])
        rw [List.append_nil] at this
        exact this
      refine b_179_61 ⟨198, ⟨so_186, rm_186_15 g3.1.1⟩, 4500, ?_⟩
      rw [nI_lit 3, nJ_mul, nJ_add, nI_cl (show 3 * j + x < 2147483648 by omega), g2 198 (by decide), hla.2.1]
      refine ⟨⟨sa_198, inR_nI (by omega) (by decide)⟩, ?_⟩
      rw [if_neg (by rw [nJ_le (by omega) (by omega)]; omega)]
      refine ⟨so_186, r_partOf g3.1.1 (by omega) hx (by omega) hla2 hi' (fun jp hjp => ?_)⟩
      rw [rt_some]
      generalize hce : (pt y x)[i]'hi' = c at hjp hc
      have hjpl := (List.getElem?_eq_some_iff.mp hjp).1
      have et : (pt y x).take (i + 1) = (pt y x).take i ++ [c] := by rw [List.take_succ_eq_append_getElem hi', hce]
      generalize hAi : ddp A ((pt y x).take i) = Ai at g4 g6 g7
      have eA : ddp A ((pt y x).take (i + 1)) = if c ∈ Ai then Ai else Ai ++ [c] := by rw [et, ddp_app, hAi, ddp_one]
      have hb := bnd (i + 1)
      rw [eA] at hb
      -- behind the number of the term
      have aft : ∀ (s3 : sT) (t : Nat) (A' : List Cond) (u7 : Value), A' = ddp A ((pt y x).take (i + 1)) → (∃ e, A' = Ai ++ e) → c ∈ A' → t = A'.idxOf c → fl s s3 σ r → (∀ z, z < 210 → s3.1 z = s1.1 z) → am s3 T1 U P1 → tmO s3.1 T1 σ A' → (∀ z, 211 < z → s3.1 z = s2.1 z) → tT (yY L xs) (d + 7) 179 135 [.ref 186, .int (nI σ), .int (nI k), .int (nI x), .int (nI j), .int (nI r), .int (nI i), .int (nI jp), .int (nI t)] [] s3 K := by
        intro s3 t A' u7 hA' hpre hcA ht' f1 f2 f3 f4 f5
        obtain ⟨e, he⟩ := hpre
        refine b_179_135 ⟨213, ⟨so_186, rm_186_37 f3.1.1⟩, 5766, ?_⟩
        rw [nI_lit 31, nJ_mul, nJ_add, nI_cl (show 31 * r + i < 2147483648 by omega), crr]
        refine ⟨⟨sa_213, inR_nI (by omega) (by decide)⟩, 212, ⟨so_186, rm_186_36 f3.1.1⟩, 186, ⟨sa_212, inr⟩, 186, ⟨sa_212, inr⟩, ?_⟩
        rw [pV_1, if_neg (by omega), f5 212 (by decide), g7]
        have := ih (i + 1) (pV (pV s3 213 (31 * r + i) (nI t)) 212 r (((pt y x).take i).foldl (fun a z => a ||| bitI (Ai.idxOf z)) 0 ||| bitI t)) (.int (nI jp)) (.int (nI t)) (by omega) (fl_put (fl_put f1 (by omega)) (by omega)) (fun z hz => by rw [← f2 z hz]; funext t; rw [pV_1, if_neg (by omega), pV_1, if_neg (by omega)]) (am_put (am_put f3 (by decide)) (by decide)) (by
            rw [← hA']
            exact tmO_ext f4 ⟨[], (List.append_nil _).symm⟩ (by rw [pV_1, if_neg (by omega), pV_1, if_neg (by omega)]) (fun i _ => by rw [pV_1, if_neg (by omega), pV_1, if_neg (by omega)])) (by
            rw [pV_1, if_neg (by omega), pV_1, if_neg (by omega), f5 214 (by decide)]; exact g5) (fun i' c' hi2 hc' => by
            rw [← hA', pV_1, if_neg (by omega), pV_1]
            by_cases ei : i' = i
            · subst ei
              rw [hc] at hc'
              cases hc'
              exact ⟨hcA, by rw [if_pos ⟨rfl, rfl⟩, ht']⟩
            · obtain ⟨w1, w2⟩ := g6 i' c' (by omega) hc'
              refine ⟨by rw [he]; exact List.mem_append_left _ w1, ?_⟩
              rw [if_neg (by omega), f5 213 (by decide), w2, he, idx_app w1]) (by
            rw [← hA', pV_1, if_pos ⟨rfl, rfl⟩, et, List.foldl_append]
            show _ = _ ||| bitI (A'.idxOf c)
            rw [ht']
            congr 1
            refine fold_ext (fun z hz => ?_)
            obtain ⟨i', hi2⟩ := List.getElem?_of_mem hz
            have hi3 := (List.getElem?_eq_some_iff.mp hi2).1
            rw [List.length_take] at hi3
            rw [List.getElem?_take, if_pos (by omega)] at hi2
            rw [he, idx_app (g6 i' z (by omega) hi2).1])
        rw [nI_succ] at this
        exact this
      refine b_179_86 ⟨so_186, r_termBy g3.1.1 (tb_nd g3.1) (by omega) hσ g4 hjp (fun hin => ?_) (fun hout => ?_)⟩
      · rw [rt_some]
        refine b_179_95 ?_
        have hlt := List.idxOf_lt_length_of_mem hin
        have h4 := g4.2.1
        rw [if_pos (nI_ne_neg (by omega))]
        rw [if_pos hin] at eA
        exact aft s2 _ Ai .null eA.symm ⟨[], (List.append_nil _).symm⟩ hin rfl g1 g2 g3 g4 (fun _ _ => rfl)
      · rw [rt_some]
        refine b_179_95 ?_
        rw [if_neg (fun q => q rfl)]
        rw [if_neg hout] at eA hb
        rw [List.length_append, List.length_singleton] at hb
        obtain ⟨a0, a1, a2, a3⟩ := g4
        refine ⟨211, ⟨so_186, rm_186_35 g3.1.1⟩, 2, ⟨sa_211, inR_nI hσ (by decide)⟩, 210, ⟨so_186, rm_186_34 g3.1.1⟩, 62, ?_⟩
        rw [nI_cl (show σ < 2147483648 by omega), a2, nI_lit 31, nJ_mul, nJ_add, nI_cl (show 31 * σ + Ai.length < 2147483648 by omega)]
        refine ⟨⟨sa_210, inR_nI (by omega) (by decide)⟩, 211, ⟨so_186, rm_186_35 g3.1.1⟩, 2, ⟨sa_211, inR_nI hσ (by decide)⟩, 2, ⟨sa_211, inR_nI hσ (by decide)⟩, ?_⟩
        rw [pV_1, if_neg (by omega), a2, ← nI_succ]
        refine aft _ Ai.length (Ai ++ [c]) .null eA.symm ⟨[c], rfl⟩ (List.mem_append_right _ List.mem_cons_self) (idx_new hout).symm (fl_put (fl_put g1 (by omega)) (by omega)) (fun z hz => by rw [← g2 z hz]; funext t; rw [pV_1, if_neg (by omega), pV_1, if_neg (by omega)]) (am_put (am_put g3 (by decide)) (by decide)) ⟨?_, by rw [List.length_append, List.length_singleton]; omega, ?_, fun i' c' hc' => ?_⟩ (fun z hz => by funext t; rw [pV_1, if_neg (by omega), pV_1, if_neg (by omega)])
        · refine List.nodup_append.mpr ⟨a0, nd_one _, fun a ha b hb e => ?_⟩
          rw [List.mem_singleton.mp hb] at e
          exact hout (e ▸ ha)
        · rw [pV_1, if_pos ⟨rfl, rfl⟩, List.length_append, List.length_singleton]
        · rw [pV_1, if_neg (by omega), pV_1]
          by_cases ei : i' < Ai.length
          · rw [List.getElem?_append_left ei] at hc'
            rw [if_neg (by omega)]
            exact a3 i' c' hc'
          · have hl := (List.getElem?_eq_some_iff.mp hc').1
            rw [List.length_append, List.length_singleton] at hl
            have : i' = Ai.length := by omega
            subst this
            rw [List.getElem?_append_right (Nat.le_refl _), Nat.sub_self] at hc'
            cases hc'
            exact ⟨jp, hjp, by rw [if_pos ⟨rfl, rfl⟩]⟩
  refine b_179_20 ⟨212, ⟨so_186, rm_186_36 q1.1.1⟩, 186, ?_⟩
  rw [nI_lit 3, nI_lit 31, nJ_mul, nJ_add, nJ_mul, nJ_add, nJ_mul, nJ_add, hr, crr, nI_cl (show 3 * j + x < 2147483648 by omega)]
  refine ⟨⟨sa_212, inr⟩, 214, ⟨so_186, rm_186_38 q1.1.1⟩, 198, ⟨so_186, rm_186_15 q1.1.1⟩, 4500, ⟨sa_198, inR_nI (by omega) (by decide)⟩, 186, ⟨sa_214, inr⟩, ?_⟩
  rw [pV_1, if_neg (by omega), hla.2.1]
  refine loop (pt y x).length 0 _ _ _ rfl (fl_put (fl_put (fl_gq q2) (by omega)) (by omega)) (fun z hz => by funext t; rw [pV_1, if_neg (by omega), pV_1, if_neg (by omega)]) (am_put (am_put q1 (by decide)) (by decide)) ?_ (by rw [pV_1, if_pos ⟨rfl, rfl⟩]) (fun i' c hi' => absurd hi' (Nat.not_lt_zero _)) (by rw [pV_1, if_neg (by omega), pV_1, if_pos ⟨rfl, rfl⟩, List.take_zero]; rfl)
  rw [List.take_zero]
  exact tmO_ext ht ⟨e1, he1⟩ (by rw [pV_1, if_neg (by omega), pV_1, if_neg (by omega), q2.2.1 211 (by decide) (by decide) (by decide)]) (fun i _ => by rw [pV_1, if_neg (by omega), pV_1, if_neg (by omega), q2.2.1 210 (by decide) (by decide) (by decide)])
end LR
