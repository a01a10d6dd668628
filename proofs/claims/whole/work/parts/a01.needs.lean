/-! WHAT A NODE NEEDS IS LAID -/
noncomputable def unl (s : sT) (T : List Cond) (x : Nat) : List Cond → Nat
  | [] => 0
  | z :: U => unl s T x U + @ite Nat (lin s T z x) (Classical.propDecidable _) 0 1
section ND
variable {L : Nat} {xs : Nat → Int32} {d : Nat} {s : sT} {K : Option Int32 → sT → Prop}
theorem unl_le {s' : sT} {T T' : List Cond} {x : Nat} (h : ∀ z, lin s T z x → lin s' T' z x) : ∀ U, unl s' T' x U ≤ unl s T x U
  | [] => Nat.le_refl _
  | z :: U => by
    have ih := unl_le h U
    unfold unl
    by_cases h1 : lin s T z x
    · rw [if_pos h1, if_pos (h z h1)]; omega
    · rw [if_neg h1]
      by_cases h2 : lin s' T' z x
      · rw [if_pos h2]; omega
      · rw [if_neg h2]; omega
theorem unl_lt {s' : sT} {T T' : List Cond} {x : Nat} {c : Cond} (h : ∀ z, lin s T z x → lin s' T' z x) (h1 : ¬ lin s T c x) (h2 : lin s' T' c x) : ∀ U, c ∈ U → unl s' T' x U < unl s T x U
  | [], hc => by cases hc
  | z :: U, hc => by
    have ih := unl_le h U
    unfold unl
    rcases List.mem_cons.mp hc with e | hc
    · subst e
      rw [if_neg h1, if_pos h2]; omega
    · have := unl_lt h h1 h2 U hc
      by_cases g1 : lin s T z x
      · rw [if_pos g1, if_pos (h z g1)]; omega
      · rw [if_neg g1]
        by_cases g2 : lin s' T' z x
        · rw [if_pos g2]; omega
        · rw [if_neg g2]; omega
/-- frame of what lays parts: due may change too -/
def gq (s s' : sT) (T T' : List Cond) : Prop := fk s s' ∧ (∀ z, 202 ≤ z → z ≠ 208 → z ≠ 209 → s'.1 z = s.1 z) ∧ (∃ e, T' = T ++ e) ∧ ∀ t, t < 3 * T.length → s.1 198 t ≠ -1 → s'.1 198 t ≠ -1
theorem gq_gp {s' : sT} {T T' : List Cond} (h : gp s s' T T') : gq s s' T T' := ⟨h.1, fun z a _ b => h.2.1 z a b, h.2.2⟩
theorem gq_refl (s : sT) (T : List Cond) : gq s s T T := gq_gp (gp_refl s T)
theorem gq_trans {s1 s2 : sT} {T T1 T2 : List Cond} (h1 : gq s s1 T T1) (h2 : gq s1 s2 T1 T2) : gq s s2 T T2 := by
  obtain ⟨a1, a2, ⟨e1, a3⟩, a4⟩ := h1
  obtain ⟨b1, b2, ⟨e2, b3⟩, b4⟩ := h2
  exact ⟨fk_trans a1 b1, fun z p q r => (b2 z p q r).trans (a2 z p q r), ⟨e1 ++ e2, by rw [b3, a3, List.append_assoc]⟩, fun t ht h => b4 t (by rw [a3, List.length_append]; omega) (a4 t ht h)⟩
theorem gq_lin {s' : sT} {T T' : List Cond} {x : Nat} (hx : x < 3) (h : gq s s' T T') : ∀ z, lin s T z x → lin s' T' z x := by
  rintro z ⟨j, j1, j2⟩
  obtain ⟨e, he⟩ := h.2.2.1
  have := (List.getElem?_eq_some_iff.mp j1).1
  exact ⟨j, by rw [he]; exact app_at j1, h.2.2.2 _ (by omega) j2⟩
/-- only due changes -/
theorem gq_due {T : List Cond} {i : Nat} {v : Int32} : gq s (pV s 208 i v) T T := ⟨fk_put (fk_refl s) (Or.inl (by decide)), fun z _ h _ => by funext t; rw [pV_1, if_neg (fun q => h q.1)], ⟨[], (List.append_nil _).symm⟩, fun t _ h => by rw [pV_1, if_neg (by omega)]; exact h⟩
theorem plO_ext {v v' : Nat → Nat → Int32} {T : List Cond} {P : Nat} (h : plO v T P) (h6 : v' 186 17 = v 186 17) (h7 : v' 197 = v 197) (h8 : v' 198 = v 198) (h9 : v' 199 = v 199) : plO v' T P := by
  have e : lfn v' = lfn v := by funext t; unfold lfn; rw [h8]
  unfold plO laidO at h ⊢
  rw [h6, h7, h8, h9, e]
  exact h
theorem am_put {T U : List Cond} {P c i : Nat} {v : Int32} (hA : am s T U P) (hc : 201 < c) : am (pV s c i v) T U P := by
  have e : ∀ z, z ≠ c → (pV s c i v).1 z = s.1 z := fun z hz => by funext t; rw [pV_1, if_neg (fun q => hz q.1)]
  exact ⟨tb_put hA.1 ⟨Or.inr (by omega), fun q => by omega⟩, hA.2.1, plO_ext hA.2.2 (by rw [e 186 (by omega)]) (e 197 (by omega)) (e 198 (by omega)) (e 199 (by omega))⟩
theorem nI_dec (n : Nat) : nI (n + 1) + -1 = nI n := by
  rw [nI_succ, Int32.add_assoc, show (1 : Int32) + -1 = 0 from rfl, Int32.add_zero]
theorem at_ne {T : List Cond} {i j : Nat} {y c : Cond} (h1 : T[i]? = some y) (h2 : T[j]? = some c) (h : z1 c < z1 y) : i ≠ j := fun e => by
  subst e
  rw [h1] at h2
  cases h2
  omega
/-- a node and all that must be laid ahead -/
theorem r_needs {T U : List Cond} {P k x : Nat} {y : Cond} {W : Cond → Prop} (hA : am s T U P) (hU : uO U) (hW : clW U W) (hk : T[k]? = some y) (hx : x < 3) (hy : W y)
    (h : ∀ s' T' P', am s' T' U P' → gq s s' T T' → s'.1 198 (3 * k + x) ≠ -1 → K none s') : tT (yY L xs) (d + 6) 176 0 [.ref 186, .int (nI k), .int (nI x), .null, .null] [] s K := by
  have top : ∀ (m N n : Nat) (s1 : sT) (T1 : List Cond) (P1 j : Nat) (c : Cond), z1 c ≤ m → unl s1 T1 x U < N → W c → am s1 T1 U P1 → T1[j]? = some c → s1.1 208 n = nI j → s1.1 198 (3 * j + x) = -1 → n + z1 c < 1400 → (∀ s2 T2 P2 u4, am s2 T2 U P2 → gq s1 s2 T1 T2 → s2.1 198 (3 * j + x) ≠ -1 → (∀ t, t < n → s2.1 208 t = s1.1 208 t) → (∀ i y', T1[i]? = some y' → z1 c < z1 y' → s2.1 198 (3 * i + x) = s1.1 198 (3 * i + x)) → tT (yY L xs) (d + 6) 176 27 [.ref 186, .int (nI k), .int (nI x), .int (nI n), u4] [] s2 K) → ∀ u4, tT (yY L xs) (d + 6) 176 27 [.ref 186, .int (nI k), .int (nI x), .int (nI (n + 1)), u4] [] s1 K := by
    intro m
    induction m with
    | zero =>
      intro N n s1 T1 P1 j c hz hN hc
      have := z01 (hW.1 c hc).2.1
      omega
    | succ m ihm =>
      intro N
      induction N with
      | zero => intro n s1 T1 P1 j c hz hN; exact absurd hN (Nat.not_lt_zero _)
      | succ N ihN =>
        intro n s1 T1 P1 j c hz hN hc g1 g2 g3 g4 g5 hK u4
        have hjl := (List.getElem?_eq_some_iff.mp g2).1
        refine b_176_27 ?_
        rw [if_neg (show ¬ nI (n + 1) ≤ 0 from by rw [nI_lit 0, nJ_le (by omega) (by omega)]; omega)]
        refine ⟨208, ⟨so_186, rm_186_31 g1.1.1⟩, 1500, ?_⟩
        rw [nI_lit 1, nJ_sub (by omega), show n + 1 - 1 = n from rfl, nI_cl (by omega), g3]
        refine ⟨⟨sa_208, inR_nI (by omega) (by decide)⟩, so_186, r_lacks g1 hU hW g2 hx hc (fun s' T' q1 q2 q3 => ?_) (fun s' T' j' c' q1 q2 q3 q4 q5 q6 => ?_)⟩
        · rw [rt_some]
          refine b_176_44 ?_
          rw [if_pos rfl]
          have e208 : s'.1 208 = s1.1 208 := q2.2.1 208 (by decide) (by decide) (by decide) (by decide) (by decide)
          have hj' : T'[j]? = some c := by
            obtain ⟨e, he⟩ := q2.2.2.2.1
            rw [he]; exact app_at g2
          have hlT : T1.length ≤ T'.length := by
            obtain ⟨e, he⟩ := q2.2.2.2.1
            rw [he, List.length_append]; omega
          refine ⟨208, ⟨so_186, rm_186_31 q1.1.1⟩, 1500, ?_⟩
          rw [nI_dec, nI_cl (by omega), e208, g3]
          refine ⟨⟨sa_208, inR_nI (by omega) (by decide)⟩, so_186, r_laysParts q1 hU hW hj' hx hc q3 (by rw [q2.2.2.2.2.1 _ (by omega)]; exact g4) (fun s2 T2 P2 r1 r2 r3 r4 => ?_)⟩
          rw [rt_none]
          refine b_176_80 (hK s2 T2 P2 _ r1 (gq_trans (gq_gp (gp_gl (gl_gz q2))) (gq_gp r2)) r3 (fun t ht => by rw [r2.2.1 208 (by decide) (by decide), e208]) (fun i y' hi hy' => ?_))
          have hil := (List.getElem?_eq_some_iff.mp hi).1
          have hne := at_ne hi g2 hy'
          rw [r4 _ (by omega) (by omega), q2.2.2.2.2.1 _ (by omega)]
        · rw [rt_some]
          have e208 : s'.1 208 = s1.1 208 := q2.2.1 208 (by decide) (by decide) (by decide) (by decide) (by decide)
          have hj' : T'[j]? = some c := by
            obtain ⟨e, he⟩ := q2.2.2.2.1
            rw [he]; exact app_at g2
          have hj'l := (List.getElem?_eq_some_iff.mp q3).1
          have hl' := am_len q1 hU
          refine b_176_44 ?_
          rw [if_neg (nI_ne_neg (by omega))]
          refine ⟨208, ⟨so_186, rm_186_31 q1.1.1⟩, 1500, ⟨sa_208, inR_nI (by omega) (by decide)⟩, ?_⟩
          rw [nI_cl (by omega), ← nI_succ]
          have o8 : ∀ t, (pV s' 208 (n + 1) (nI j')).1 198 t = s'.1 198 t := fun t => by rw [pV_1, if_neg (by omega)]
          refine b_176_80 (ihm (unl (pV s' 208 (n + 1) (nI j')) T' x U + 1) (n + 1) (pV s' 208 (n + 1) (nI j')) T' P1 j' c' (by omega) (Nat.lt_succ_self _) q4 (am_put q1 (by decide)) q3 (by rw [pV_1, if_pos ⟨rfl, rfl⟩]) (by rw [o8]; exact q6) (by omega) (fun s2 T2 P2 u r1 r2 r3 r4 r5 => ?_) _)
          have gg : gq s1 s2 T1 T2 := gq_trans (gq_trans (gq_gp (gp_gl (gl_gz q2))) gq_due) r2
          have hj2 : T2[j]? = some c := by
            obtain ⟨e, he⟩ := gg.2.2.1
            rw [he]; exact app_at g2
          have hj2' : T2[j']? = some c' := by
            obtain ⟨e, he⟩ := r2.2.2.1
            rw [he]; exact app_at q3
          have lt : unl s2 T2 x U < unl s1 T1 x U := by
            refine Nat.lt_of_lt_of_le (unl_lt (c := c') (gq_lin hx r2) ?_ ⟨j', hj2', r3⟩ U (hW.1 c' q4).1) (unl_le (gq_lin hx (gq_trans (gq_gp (gp_gl (gl_gz q2))) gq_due)) U)
            rintro ⟨i, i1, i2⟩
            have := (List.getElem?_inj (List.getElem?_eq_some_iff.mp i1).1 (tb_nd q1.1)).mp (i1.trans q3.symm)
            subst this
            rw [o8] at i2
            exact i2 q6
          refine ihN n s2 T2 P2 j c hz (by omega) hc r1 hj2 ?_ ?_ g5 (fun s3 T3 P3 u' w1 w2 w3 w4 w5 => ?_) u
          · rw [r4 n (by omega), pV_1, if_neg (by omega), e208]; exact g3
          · rw [r5 j c hj' q5, o8, q2.2.2.2.2.1 _ (by omega)]; exact g4
          · refine hK s3 T3 P3 u' w1 (gq_trans gg w2) w3 (fun t ht => ?_) (fun i y' hi hy' => ?_)
            · rw [w4 t ht, r4 t (by omega), pV_1, if_neg (by omega), e208]
            · have hil := (List.getElem?_eq_some_iff.mp hi).1
              have hi' : T'[i]? = some y' := by
                obtain ⟨e, he⟩ := q2.2.2.2.1
                rw [he]; exact app_at hi
              have hi2 : T2[i]? = some y' := by
                obtain ⟨e, he⟩ := r2.2.2.1
                rw [he]; exact app_at hi'
              rw [w5 i y' hi2 hy', r5 i y' hi' (by omega), o8, q2.2.2.2.2.1 _ (by omega)]
  have hkl := (List.getElem?_eq_some_iff.mp hk).1
  have hlen := am_len hA hU
  have hWy := hW.1 y hy
  refine b_176_0 ⟨198, ⟨so_186, rm_186_15 hA.1.1⟩, 4500, ?_⟩
  rw [nI_lit 3, nJ_mul, nJ_add, nI_cl (show 3 * k + x < 2147483648 by omega)]
  refine ⟨⟨sa_198, inR_nI (by omega) (by decide)⟩, ?_⟩
  by_cases hm : s.1 198 (3 * k + x) = -1
  · rw [if_pos hm]
    refine ⟨208, ⟨so_186, rm_186_31 hA.1.1⟩, 1500, ⟨sa_208, inR_nI (k := 0) (by decide) (by decide)⟩, ?_⟩
    exact top (z1 y) (unl (pV s 208 0 (nI k)) T x U + 1) 0 (pV s 208 0 (nI k)) T P k y (Nat.le_refl _) (Nat.lt_succ_self _) hy (am_put hA (by decide)) hk (by rw [pV_1, if_pos ⟨rfl, rfl⟩]) (by rw [pV_1, if_neg (by omega)]; exact hm) (by omega) (fun s2 T2 P2 u4 r1 r2 r3 _ _ => by
      refine b_176_27 ?_
      rw [if_pos (show nI 0 ≤ 0 from Int32.le_refl _)]
      exact h s2 T2 P2 r1 (gq_trans gq_due r2) r3) .null
  · rw [if_neg hm]
    exact h s T P hA (gq_refl s T) hm
end ND
