/-! SUMS, PRODUCTS AND STARS, by the class -/
section CC
variable {L : Nat} {xs : Nat → Int32} {d : Nat} {s : sT} {K : Option Int32 → sT → Prop} {T : List Cond} {p : Nat}
theorem opO_fT {s' : sT} {T' : List Cond} {m : Nat} {l : List Cond} (h : opO s.1 T m l) (hf : fT s s' (m + l.length)) (h9 : s'.1 1 9 = nI (m + l.length)) (hT : ∃ e, T' = T ++ e) : opO s'.1 T' m l := by
  obtain ⟨e, rfl⟩ := hT
  refine ⟨h9, fun i c hc => ?_⟩
  have hi := (List.getElem?_eq_some_iff.mp hc).1
  obtain ⟨j, j1, j2⟩ := h.2 i c hc
  exact ⟨j, app_at j1, by rw [hf.2.2 _ (by omega)]; exact j2⟩
theorem ad_pre {T T' : List Cond} {y : Cond} (h : ad T y T') : ∃ e, T' = T ++ e := by
  rcases h with ⟨e, -⟩ | ⟨e, -⟩
  · exact ⟨[], by rw [e, List.append_nil]⟩
  · exact ⟨[y], e⟩
theorem tc_put9 {x : Int32} (h : tc s T p) : tc (pV s 1 9 x) T p := tc_off h rfl (by rw [pV_1, if_neg (by omega)]) (by rw [pV_1, if_neg (by omega)]) (fun z h1 h2 => by funext t; rw [pV_1, if_neg (by omega)])
/-- what is above m becomes one node -/
theorem c_close {m o : Nat} {l : List Cond} {y : Cond} {a : Nat} (h : tc s T p) (ho : opO s.1 T m l) (hl : m + l.length ≤ 136) (cy : cn y) (hz : z0 y ≤ 68) (hT : T.length < 160) (hp : p + l.length ≤ 2048) (ha : a < 5) (h0 : l = [] → y = .count a) (h1 : ∀ c, l = [c] → y = c) (h2 : 2 ≤ l.length → kC y = o ∧ 1 ≤ o ∧ chl y = l)
    (hK : ∀ s' T' p' j, tc s' T' p' → (∃ e, T' = T ++ e) → T'.length ≤ T.length + 1 → p' ≤ p + l.length → T'[j]? = some y → fT s s' m → s'.1 1 9 = nI m → K (some (nI j)) s') : tT (yY L xs) (d + 2) 98 0 [.ref 1, .int (nI o), .int (nI m), .int (nI a), .null, .null] [] s K := by
  have hP := h.1
  have fin : ∀ (s1 : sT) (T1 : List Cond) (p1 j : Nat) (u4 : Int32), tc s1 T1 p1 → (∃ e, T1 = T ++ e) → T1.length ≤ T.length + 1 → p1 ≤ p + l.length → T1[j]? = some y → fT s s1 m → tT (yY L xs) (d + 2) 98 38 [.ref 1, .int (nI o), .int (nI m), .int (nI a), .int u4, .null] [.int (nI j)] s1 K := by
    intro s1 T1 p1 j u4 g1 g2 g3 g4 g5 g6
    exact b_98_38 ⟨so_1, hK _ T1 p1 j (tc_put9 g1) g2 g3 g4 g5 (fT_put g6 (by omega)) (by rw [pV_1, if_pos ⟨rfl, rfl⟩])⟩
  refine b_98_0 ⟨so_1, ?_⟩
  rw [ho.1, nJ_sub (by omega), show m + l.length - m = l.length by omega]
  cases l with
  | nil =>
    rw [if_neg (show ¬ ¬ nI ([] : List Cond).length = 0 from fun q => q rfl)]
    refine fin s T p a _ h ⟨[], (List.append_nil _).symm⟩ (by omega) (by omega) ?_ (fT_refl s m)
    rw [h0 rfl]; exact tc_5 h a ha
  | cons c l' =>
    rw [if_pos (show ¬ nI (c :: l').length = 0 from fun e => by have := (nJ_eq (b := 0) (by omega) (by decide)).mp e; rw [List.length_cons] at this; omega)]
    cases l' with
    | nil =>
      rw [if_neg (show ¬ ¬ nI [c].length = 1 from fun q => q rfl)]
      obtain ⟨j, j1, j2⟩ := ho.2 0 c rfl
      rw [Nat.add_zero] at j2
      have hl' : m + 1 ≤ 136 := hl
      refine ⟨8, ⟨so_1, rp_1_6 hP⟩, 136, ⟨sa_8, inR_nI (by omega) (by decide)⟩, ?_⟩
      rw [nI_cl (by omega), j2]
      refine fin s T p j _ h ⟨[], (List.append_nil _).symm⟩ (by omega) (by omega) ?_ (fT_refl s m)
      rw [h1 c rfl]; exact j1
    | cons c2 l2 =>
      rw [if_pos (show ¬ nI (c :: c2 :: l2).length = 1 from fun e => by have := (nJ_eq (b := 1) (by omega) (by decide)).mp e; rw [List.length_cons, List.length_cons] at this; omega)]
      obtain ⟨e1, e2, e3⟩ := h2 (by rw [List.length_cons, List.length_cons]; omega)
      subst e1
      refine ⟨so_1, c_nodeOf h ho hl cy e2 hz e3 hT hp (fun s' T' p' j q1 q2 q3 q4 q5 q6 q7 => ?_)⟩
      rw [rt_some]
      exact fin s' T' p' j _ q1 (ad_pre q2) (ad_len q2) q3 q4 ⟨q5, fun z hz => q6 z (by omega), fun t _ => by rw [q6 8 (by omega)]⟩
theorem mkS_chl {l : List Cond} (h : ∀ y ∈ l, cn y ∧ isSum y = false ∧ y ≠ S0) (hn : l.Nodup) (h2 : 2 ≤ l.length) : kC (mkS l) = 1 ∧ chl (mkS l) = l := by
  match l, h, hn, h2 with
  | x :: y :: l, h, hn, _ =>
    have hn2 := List.nodup_cons.mp hn
    have := (sumL_mkS (l := y :: l) (fun z hz => h z (List.mem_cons_of_mem _ hz)) hn2.2).1
    refine ⟨rfl, ?_⟩
    show x :: sumL (mkS (y :: l)) = _
    rw [this]
theorem mkP_chl {l : List Cond} (h : ∀ y ∈ l, cn y ∧ isProd y = false ∧ y ≠ S0 ∧ y ≠ S1) (h2 : 2 ≤ l.length) : kC (mkP l) = 2 ∧ chl (mkP l) = l := by
  match l, h, h2 with
  | x :: y :: l, h, _ =>
    have := (prodL_mkP (l := y :: l) (fun z hz => h z (List.mem_cons_of_mem _ hz))).1
    refine ⟨rfl, ?_⟩
    show x :: prodL (mkP (y :: l)) = _
    rw [this]
theorem c_closeSum {m : Nat} {l : List Cond} (h : tc s T p) (ho : opO s.1 T m l) (hl : m + l.length ≤ 136) (hc : ∀ y ∈ l, cn y ∧ isSum y = false ∧ y ≠ S0) (hn : l.Nodup) (hz : z0 (mkS l) ≤ 68) (hT : T.length < 160) (hp : p + l.length ≤ 2048)
    (hK : ∀ s' T' p' j, tc s' T' p' → (∃ e, T' = T ++ e) → T'.length ≤ T.length + 1 → p' ≤ p + l.length → T'[j]? = some (mkS l) → fT s s' m → s'.1 1 9 = nI m → K (some (nI j)) s') : tT (yY L xs) (d + 3) 90 0 [.ref 1, .int (nI m)] [] s K := by
  refine b_90_0 ⟨so_1, c_close (o := 1) (a := 0) h ho hl (sumL_mkS hc hn).2.1 hz hT hp (by decide) (fun e => by rw [e]; rfl) (fun c e => by rw [e]; rfl) (fun e => ?_) (fun s' T' p' j q1 q2 q3 q4 q5 q6 q7 => ?_)⟩
  · have := mkS_chl hc hn e
    exact ⟨this.1, by decide, this.2⟩
  · rw [rt_some]
    exact b_90_7 (hK s' T' p' j q1 q2 q3 q4 q5 q6 q7)
theorem c_closeProduct {m : Nat} {l : List Cond} (h : tc s T p) (ho : opO s.1 T m l) (hl : m + l.length ≤ 136) (hc : ∀ y ∈ l, y ≠ S0 → cn y ∧ isProd y = false ∧ y ≠ S1) (hz : S0 ∉ l → z0 (mkP l) ≤ 68) (hT : T.length < 160) (hp : p + l.length ≤ 2048)
    (hK : ∀ s' T' p' j, tc s' T' p' → (∃ e, T' = T ++ e) → T'.length ≤ T.length + 1 → p' ≤ p + l.length → T'[j]? = some (if S0 ∈ l then S0 else mkP l) → fT s s' m → s'.1 1 9 = nI m → K (some (nI j)) s') : tT (yY L xs) (d + 3) 91 0 [.ref 1, .int (nI m), .null] [] s K := by
  have hP := h.1
  have loop : ∀ q i, q + i = l.length → (∀ t, t < i → l[t]? ≠ some S0) → tT (yY L xs) (d + 3) 91 2 [.ref 1, .int (nI m), .int (nI (m + i))] [] s K := by
    intro q
    induction q with
    | zero =>
      intro i hi hn
      refine b_91_2 ⟨so_1, ?_⟩
      rw [ho.1, if_pos (by rw [nJ_le (by omega) (by omega)]; omega)]
      have hS : S0 ∉ l := fun hc => by
        obtain ⟨t, ht⟩ := List.getElem?_of_mem hc
        have := (List.getElem?_eq_some_iff.mp ht).1
        exact hn t (by omega) ht
      rw [if_neg hS] at hK
      have hc' : ∀ y ∈ l, cn y ∧ isProd y = false ∧ y ≠ S0 ∧ y ≠ S1 := fun y hy => by
        have h0 : y ≠ S0 := fun e => hS (e ▸ hy)
        have := hc y hy h0
        exact ⟨this.1, this.2.1, h0, this.2.2⟩
      refine ⟨so_1, c_close (o := 2) (a := 1) h ho hl (prodL_mkP hc').2.1 (hz hS) hT hp (by decide) (fun e => by rw [e]; rfl) (fun c e => by rw [e]; rfl) (fun e => ?_) (fun s' T' p' j q1 q2 q3 q4 q5 q6 q7 => ?_)⟩
      · have := mkP_chl hc' e
        exact ⟨this.1, by decide, this.2⟩
      · rw [rt_some]
        exact b_91_39 (hK s' T' p' j q1 q2 q3 q4 q5 q6 q7)
    | succ q ih =>
      intro i hi hn
      have hi' : i < l.length := by omega
      obtain ⟨j, j1, j2⟩ := ho.2 i _ (List.getElem?_eq_getElem hi')
      have hjl := tc_lt h j1
      refine b_91_2 ⟨so_1, ?_⟩
      rw [ho.1, if_neg (by rw [nJ_le (by omega) (by omega)]; omega)]
      refine ⟨8, ⟨so_1, rp_1_6 hP⟩, 136, ⟨sa_8, inR_nI (by omega) (by decide)⟩, ?_⟩
      rw [nI_cl (by omega), j2]
      by_cases e : l[i] = S0
      · have ej : j = 0 := (tc_eq h j1 (tc_5 h 0 (by decide))).mpr e
        rw [if_neg (show ¬ ¬ nI j = 0 from fun q => q (by rw [ej]; rfl))]
        have hS : S0 ∈ l := by rw [← e]; exact List.getElem_mem _
        rw [if_pos hS] at hK
        exact ⟨so_1, hK _ T p 0 (tc_put9 h) ⟨[], (List.append_nil _).symm⟩ (by omega) (by omega) (tc_5 h 0 (by decide)) (fT_put (fT_refl s m) (by omega)) (by rw [pV_1, if_pos ⟨rfl, rfl⟩])⟩
      · have ej : j ≠ 0 := fun q => e ((tc_eq h j1 (tc_5 h 0 (by decide))).mp q)
        rw [if_pos (show ¬ nI j = 0 from fun q => ej ((nJ_eq (b := 0) (by omega) (by decide)).mp q)), ← nI_succ]
        exact ih (i + 1) (by omega) (fun t ht => by
          by_cases et : t = i
          · subst et
            rw [List.getElem?_eq_getElem hi']
            intro q
            exact e (Option.some.inj q)
          · exact hn t (by omega))
  exact b_91_0 (loop l.length 0 (by omega) (fun t ht => absurd ht (Nat.not_lt_zero _)))
theorem c_starOf {m k : Nat} {y : Cond} (h : tc s T p) (h9 : s.1 1 9 = nI m) (hm : m < 136) (hk : T[k]? = some y) (hz : z0 (sStar y) ≤ 68) (hT : T.length < 160) (hp : p + 1 ≤ 2048)
    (hK : ∀ s' T' p' j, tc s' T' p' → (∃ e, T' = T ++ e) → T'.length ≤ T.length + 1 → p' ≤ p + 1 → T'[j]? = some (sStar y) → fT s s' m → s'.1 1 9 = nI m → K (some (nI j)) s') : tT (yY L xs) (d + 2) 92 0 [.ref 1, .int (nI k), .null, .null] [] s K := by
  have hkl := tc_lt h hk
  have cy := tc_cn h hk
  have hkC := kC_le y
  have same : ∀ j, T[j]? = some (sStar y) → K (some (nI j)) s := fun j hj => hK s T p j h ⟨[], (List.append_nil _).symm⟩ (by omega) (by omega) hj (fT_refl s m) h9
  have e0 := tc_eq h hk (tc_5 h 0 (by decide))
  have e1 := tc_eq h hk (tc_5 h 1 (by decide))
  refine b_92_0 ?_
  by_cases k0 : k = 0
  · rw [if_pos (show nI k = 0 by rw [k0]; rfl)]
    refine same 1 ?_
    rw [e0.mp k0]; exact tc_5 h 1 (by decide)
  · rw [if_neg (show ¬ nI k = 0 from fun q => k0 ((nJ_eq (b := 0) (by omega) (by decide)).mp q))]
    by_cases k1 : k = 1
    · rw [if_neg (show ¬ ¬ nI k = 1 from fun q => q (by rw [k1]; rfl))]
      refine same 1 ?_
      rw [e1.mp k1]; exact tc_5 h 1 (by decide)
    · rw [if_pos (show ¬ nI k = 1 from fun q => k1 ((nJ_eq (b := 1) (by omega) (by decide)).mp q))]
      have y0 : y ≠ S0 := fun e => k0 (e0.mpr e)
      have y1 : y ≠ S1 := fun e => k1 (e1.mpr e)
      refine ⟨so_1, c_kindOf h hk ?_⟩
      rw [rt_some]
      refine b_92_16 ?_
      by_cases h3 : kC y = 3
      · rw [if_neg (by rw [h3]; exact fun q => q rfl)]
        obtain ⟨a, rfl⟩ := kC_3 h3
        exact same k hk
      · rw [if_pos (show ¬ nI (kC y) = 3 from fun e => h3 ((nJ_eq (by omega) (by decide)).mp e)), h9]
        have es : sStar y = .not y := by
          unfold sStar
          rw [if_neg (fun q => q.elim y0 y1), if_neg (by rw [kC_n3 h3]; decide)]
        rw [es] at hK hz
        have cs : cn (.not y) := ⟨cy, kC_n3 h3, y0, y1⟩
        refine ⟨so_1, so_1, c_push (m := m) (l := []) h ⟨h9, fun i c hc => by cases hc⟩ hm hk (fun s1 q1 q2 q3 => ?_)⟩
        rw [rt_none]
        refine b_92_32 ⟨so_1, c_nodeOf (y := .not y) (m := m) (l := [y]) q1 q2 (show m + 1 ≤ 136 by omega) cs (show 1 ≤ 3 by decide) hz rfl hT hp (fun s' T' p' j w1 w2 w3 w4 w5 w6 w7 => ?_)⟩
        rw [rt_some]
        refine b_92_38 ⟨so_1, hK _ T' p' j (tc_put9 w1) (ad_pre w2) (ad_len w2) w3 w4 (fT_put ⟨w5.trans q3.1, fun z hz => (w6 z (by omega)).trans (q3.2.1 z hz), fun t ht => ?_⟩ (by omega)) (by rw [pV_1, if_pos ⟨rfl, rfl⟩])⟩
        rw [w6 8 (by omega)]
        exact q3.2.2 t (show t < m + 0 by omega)
end CC
