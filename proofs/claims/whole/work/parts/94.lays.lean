section LB
variable {L : Nat} {xs : Nat → Int32} {d : Nat} {s : sT} {K : Option Int32 → sT → Prop}
/-- the parts gathered: numbers of nodes -/
def lyO (v : Nat → Nat → Int32) (js : List Nat) : Prop := v 186 33 = nI js.length ∧ ∀ i, i < js.length → v 209 i = nI (js.getD i 0)
def lyPut (s : sT) (js : List Nat) (j : Nat) : sT := pV (pV s 209 js.length (nI j)) 186 33 (nI (js.length + 1))
theorem lyO_put {js : List Nat} {j : Nat} (h : lyO s.1 js) : lyO (lyPut s js j).1 (js ++ [j]) := by
  refine ⟨?_, fun i hi => ?_⟩
  · unfold lyPut; rw [pV_1, if_pos ⟨rfl, rfl⟩, List.length_append]; rfl
  · unfold lyPut
    rw [pV_1, if_neg (by omega), pV_1]
    rw [List.length_append, List.length_singleton] at hi
    by_cases e : i = js.length
    · subst e
      rw [if_pos ⟨rfl, rfl⟩, List.getD_eq_getElem?_getD, List.getElem?_append_right (Nat.le_refl _), Nat.sub_self]; rfl
    · rw [if_neg (fun q => e q.2), h.2 i (by omega), List.getD_eq_getElem?_getD, List.getD_eq_getElem?_getD, List.getElem?_append_left (by omega)]
/-- only the gathered parts change -/
def frL (s s' : sT) : Prop := s'.2 = s.2 ∧ (∀ z, z ≠ 186 → z ≠ 209 → s'.1 z = s.1 z) ∧ ∀ z, z ≠ 33 → s'.1 186 z = s.1 186 z
theorem frL_refl (s : sT) : frL s s := ⟨rfl, fun _ _ _ => rfl, fun _ _ => rfl⟩
theorem frL_put {js : List Nat} {j : Nat} : frL s (lyPut s js j) := ⟨rfl, fun z h1 h2 => by funext t; unfold lyPut; rw [pV_1, if_neg (fun q => h1 q.1), pV_1, if_neg (fun q => h2 q.1)], fun z hz => by unfold lyPut; rw [pV_1, if_neg (fun q => hz q.2), pV_1, if_neg (by omega)]⟩
theorem gl_frL {s' : sT} {T : List Cond} (h : frL s s') : gl s s' T T := ⟨h.1, fun z a _ _ _ _ b => h.2.1 z a b, fun z _ _ _ a => h.2.2 z a, ⟨[], (List.append_nil _).symm⟩, fun t _ => by rw [h.2.1 198 (by decide) (by decide)], fun t h1 h2 => by omega⟩
theorem tb_frL {s' : sT} {T : List Cond} (hf : frL s s') (h : tb s T) : tb s' T := by
  obtain ⟨hM, ⟨off, hN⟩, hs⟩ := h
  exact ⟨by rw [hf.1]; exact hM, ⟨off, rN_off hN (hf.2.2 12 (by decide)) (hf.2.2 13 (by decide)) (fun z q1 q2 => hf.2.1 z (by omega) (by omega))⟩, hs⟩
theorem am_frL {s' : sT} {T U : List Cond} {P : Nat} (hf : frL s s') (h : am s T U P) : am s' T U P := ⟨tb_frL hf h.1, h.2.1, plO_gl (gl_frL hf) h.2.2⟩
theorem r_lays {T : List Cond} {js : List Nat} {cs : List Cond} {j : Nat} {c : Cond} (hM : rM s.2) (hr : lyO s.1 js) (ht : rwT T js cs) (hn : T.Nodup) (hT : T.length ≤ 1500) (hj : T[j]? = some c) (hl : js.length < 200) (h : ∀ s' js', lyO s'.1 js' → rwT T js' (ddp cs [c]) → frL s s' → K none s') : tT (yY L xs) d 172 0 [.ref 186, .int (nI j), .null] [] s K := by
  have hjl := (List.getElem?_eq_some_iff.mp hj).1
  have hjs : ∀ q ∈ js, q < 1500 := fun q hq => by have := rwT_lt ht q hq; omega
  have hm := rwT_mem hn ht hj
  have e : ddp cs [c] = if c ∈ cs then cs else cs ++ [c] := by rw [ddp_cons]; rfl
  rw [e] at h
  have loop : ∀ q i, q + i = js.length → (∀ t, t < i → js.getD t 0 ≠ j) → tT (yY L xs) d 172 2 [.ref 186, .int (nI j), .int (nI i)] [] s K := by
    intro q
    induction q with
    | zero =>
      intro i hi hn'
      refine b_172_2 ⟨so_186, ?_⟩
      rw [hr.1, if_pos (by rw [nJ_le (by omega) (by omega)]; omega)]
      have hc : c ∉ cs := fun q => by
        obtain ⟨t, ht, e⟩ := mem_getD (hm.mpr q)
        exact hn' t (by omega) e
      rw [if_neg hc] at h
      refine ⟨209, ⟨so_186, rm_186_32 hM⟩, so_186, 200, ?_⟩
      rw [nI_cl (show js.length < 2147483648 by omega)]
      refine ⟨⟨sa_209, inR_nI hl (by decide)⟩, so_186, so_186, ?_⟩
      rw [pV_1, if_neg (by omega), hr.1, ← nI_succ]
      exact h _ _ (lyO_put hr) (rwT_snoc ht hj) frL_put
    | succ q ih =>
      intro i hi hn'
      refine b_172_2 ⟨so_186, ?_⟩
      rw [hr.1, if_neg (by rw [nJ_le (by omega) (by omega)]; omega)]
      refine ⟨209, ⟨so_186, rm_186_32 hM⟩, 200, ?_⟩
      rw [nI_cl (show i < 2147483648 by omega), hr.2 i (by omega)]
      refine ⟨⟨sa_209, inR_nI (by omega) (by decide)⟩, ?_⟩
      have hlt := hjs _ (getD_mem (show i < js.length by omega))
      by_cases e : js.getD i 0 = j
      · rw [if_neg (by rw [nJ_eq (by omega) (by omega)]; exact fun q => q e)]
        rw [if_pos (hm.mp (by rw [← e]; exact getD_mem (by omega)))] at h
        exact h s js hr ht (frL_refl s)
      · rw [if_pos (by rw [nJ_eq (by omega) (by omega)]; exact e)]
        have := ih (i + 1) (by omega) (fun t ht => by
          by_cases et : t = i
          · subst et; exact e
          · exact hn' t (by omega))
        rw [nI_succ] at this
        exact this
  exact b_172_0 (loop js.length 0 rfl (fun t ht => absurd ht (Nat.not_lt_zero _)))
theorem r_partOf {T : List Cond} {P k x i : Nat} {y : Cond} (hM : rM s.2) (hk : k < 1500) (hx : x < 3) (hP : P ≤ 45000) (hl : laidO s.1 T P k y x) (hi : i < (pt y x).length) (h : ∀ j, T[j]? = some ((pt y x)[i]'hi) → K (some (nI j)) s) : tT (yY L xs) d 173 0 [.ref 186, .int (nI k), .int (nI x), .int (nI i)] [] s K := by
  obtain ⟨a1, a2, a, a3, a4, a5⟩ := hl
  obtain ⟨j, g1, g2⟩ := a5 i _ (List.getElem?_eq_getElem hi)
  refine b_173_0 ⟨199, ⟨so_186, rm_186_16 hM⟩, 197, ⟨so_186, rm_186_14 hM⟩, 4500, ?_⟩
  rw [nI_lit 3, nJ_mul, nJ_add, nI_cl (show 3 * k + x < 2147483648 by omega), a3, nJ_add, nI_cl (show a + i < 2147483648 by omega), g2]
  exact ⟨⟨sa_197, inR_nI (by omega) (by decide)⟩, 48000, ⟨sa_199, inR_nI (by omega) (by decide)⟩, h j g1⟩
theorem ddp_le (A B : List Cond) : (ddp [] A).length ≤ (ddp [] (A ++ B)).length := by
  rw [ddp_app]
  obtain ⟨e, he⟩ := ddp_pre (ddp [] A) B
  rw [he, List.length_append]; omega
/-- THE PARTS OF A NODE ARE LAID -/
def gp (s s' : sT) (T T' : List Cond) : Prop := fk s s' ∧ (∀ z, 202 ≤ z → z ≠ 209 → s'.1 z = s.1 z) ∧ (∃ e, T' = T ++ e) ∧ ∀ t, t < 3 * T.length → s.1 198 t ≠ -1 → s'.1 198 t ≠ -1
theorem gp_refl (s : sT) (T : List Cond) : gp s s T T := ⟨fk_refl s, fun _ _ _ => rfl, ⟨[], (List.append_nil _).symm⟩, fun _ _ h => h⟩
theorem gp_trans {s1 s2 : sT} {T T1 T2 : List Cond} (h1 : gp s s1 T T1) (h2 : gp s1 s2 T1 T2) : gp s s2 T T2 := by
  obtain ⟨a1, a2, ⟨e1, a3⟩, a4⟩ := h1
  obtain ⟨b1, b2, ⟨e2, b3⟩, b4⟩ := h2
  exact ⟨fk_trans a1 b1, fun z p q => (b2 z p q).trans (a2 z p q), ⟨e1 ++ e2, by rw [b3, a3, List.append_assoc]⟩, fun t ht h => b4 t (by rw [a3, List.length_append]; omega) (a4 t ht h)⟩
theorem gp_gl {s' : sT} {T T' : List Cond} (h : gl s s' T T') : gp s s' T T' := ⟨⟨h.1, fun z a b => h.2.1 z b (Or.inl a) (by omega) (by omega) (by omega) (by omega), fun z a => h.2.2.1 z (by omega) (by omega) (by omega) (by omega)⟩, fun z a b => h.2.1 z (by omega) (by omega) (by omega) (by omega) (by omega) b, h.2.2.2.1, fun t ht q => by rw [h.2.2.2.2.1 t ht]; exact q⟩
/-- at the end the gathered parts are written down -/
theorem r_laysEnd {T U : List Cond} {P k x : Nat} {y : Cond} {js : List Nat} {u3 u4 u5 : Value} (hA : am s T U P) (hU : uO U) (hk : T[k]? = some y) (hx : x < 3) (h3 : pt3 y ≤ 30) (hnot : s.1 198 (3 * k + x) = -1) (hr : lyO s.1 js) (ht : rwT T js (pt y x))
    (h : ∀ s' P', am s' T U P' → gp s s' T T → s'.1 198 (3 * k + x) ≠ -1 → (∀ t, t ≠ 3 * k + x → s'.1 198 t = s.1 198 t) → K none s') : tT (yY L xs) (d + 1) 174 272 [.ref 186, .int (nI k), .int (nI x), u3, u4, u5] [] s K := by
  have hM := hA.1.1
  have hlen := am_len hA hU
  have hkl := (List.getElem?_eq_some_iff.mp hk).1
  have hP := plO_le hA.2.2
  obtain ⟨p1, p2, p3⟩ := hA.2.2
  have hpt := pt_pt3 y hx
  have hjl := ht.1
  generalize hs1 : pV (pV s 197 (3 * k + x) (nI P)) 198 (3 * k + x) (nI js.length) = s1
  have o1 : ∀ z t, z ≠ 197 → z ≠ 198 → s1.1 z t = s.1 z t := fun z t h1 h2 => by rw [← hs1, pV_1, if_neg (by omega), pV_1, if_neg (by omega)]
  have loop : ∀ q i (s2 : sT), q + i = js.length → s2.2 = s.2 → (∀ z, z ≠ 199 → s2.1 z = s1.1 z) → (∀ t, (t < P ∨ P + i ≤ t) → s2.1 199 t = s.1 199 t) → (∀ t, t < i → s2.1 199 (P + t) = nI (js.getD t 0)) → tT (yY L xs) (d + 1) 174 302 [.ref 186, .int (nI k), .int (nI x), .int (nI i), u4, u5] [] s2 K := by
    intro q
    induction q with
    | zero =>
      intro i s2 hi g1 g2 g3 g4
      have e33 : s2.1 186 33 = nI js.length := by rw [g2 186 (by decide), o1 186 33 (by decide) (by decide)]; exact hr.1
      have e17 : s2.1 186 17 = nI P := by rw [g2 186 (by decide), o1 186 17 (by decide) (by decide)]; exact p1
      refine b_174_302 ⟨so_186, ?_⟩
      rw [e33, e17, if_pos (by rw [nJ_le (by omega) (by omega)]; omega), nJ_add]
      refine ⟨so_186, so_186, so_186, ?_⟩
      generalize hs3 : pV s2 186 17 (nI (P + js.length)) = s3
      have o3 : ∀ z t, z ≠ 186 → s3.1 z t = s2.1 z t := fun z t h1 => by rw [← hs3, pV_1, if_neg (by omega)]
      have c198 : ∀ t, s3.1 198 t = if t = 3 * k + x then nI js.length else s.1 198 t := fun t => by
        rw [o3 198 t (by decide), g2 198 (by decide), ← hs1, pV_1]
        by_cases e : t = 3 * k + x
        · rw [if_pos ⟨rfl, e⟩, if_pos e]
        · rw [if_neg (by omega), if_neg e, pV_1, if_neg (by omega)]
      have c197 : ∀ t, s3.1 197 t = if t = 3 * k + x then nI P else s.1 197 t := fun t => by
        rw [o3 197 t (by decide), g2 197 (by decide), ← hs1, pV_1, if_neg (by omega), pV_1]
        by_cases e : t = 3 * k + x
        · rw [if_pos ⟨rfl, e⟩, if_pos e]
        · rw [if_neg (by omega), if_neg e]
      have c199 : ∀ t, t < P → s3.1 199 t = s.1 199 t := fun t ht => by rw [o3 199 t (by decide), g3 t (Or.inl ht)]
      have oth : ∀ z, z ≠ 186 → z ≠ 197 → z ≠ 198 → z ≠ 199 → s3.1 z = s.1 z := fun z h1 h2 h3 h4 => by
        funext t
        rw [o3 z t h1, g2 z h4, o1 z t h2 h3]
      have oth6 : ∀ z, z ≠ 17 → s3.1 186 z = s.1 186 z := fun z hz => by
        rw [← hs3, pV_1, if_neg (by omega), g2 186 (by decide), o1 186 z (by decide) (by decide)]
      have hne : ¬ nI js.length = -1 := nI_ne_neg (by omega)
      refine h s3 (P + js.length) ⟨?_, hA.2.1, ?_, ?_, fun k' y' x' hk' hx' => ?_⟩ ⟨⟨?_, fun z a b => oth z b (by omega) (by omega) (by omega), fun z a => oth6 z (by omega)⟩, fun z a b => oth z (by omega) (by omega) (by omega) (by omega), ⟨[], (List.append_nil _).symm⟩, fun t ht hq => ?_⟩ ?_ (fun t ht => by rw [c198, if_neg ht])
      · obtain ⟨hM, ⟨off, hN⟩, hs⟩ := hA.1
        have e2 : s3.2 = s.2 := by rw [← hs3]; exact g1
        exact ⟨by rw [e2]; exact hM, ⟨off, rN_off hN (oth6 12 (by decide)) (oth6 13 (by decide)) (fun z q1 q2 => oth z (by omega) (by omega) (by omega) (by omega))⟩, hs⟩
      · rw [← hs3, pV_1, if_pos ⟨rfl, rfl⟩]
      · have := psum_upd (f := lfn s.1) (f' := lfn s3.1) (i := 3 * k + x) (fun t ht => by unfold lfn; rw [c198 t, if_neg ht]) (by unfold lfn; rw [if_pos hnot]) (3 * T.length)
        rw [this, if_pos (by omega), ← p2]
        unfold lfn
        rw [c198, if_pos rfl, if_neg hne, nI_cl (by omega)]
      · by_cases e : 3 * k' + x' = 3 * k + x
        · have e1 : k' = k := by omega
          have e2 : x' = x := by omega
          subst e1 e2
          rw [hk] at hk'
          cases hk'
          refine Or.inr ⟨h3, by rw [c198, if_pos rfl, hjl], P, by rw [c197, if_pos rfl], by omega, fun i' c hc => ?_⟩
          have hi' := (List.getElem?_eq_some_iff.mp hc).1
          refine ⟨js.getD i' 0, by rw [ht.2 i' (by omega)]; exact hc, ?_⟩
          rw [o3 199 _ (by decide)]
          exact g4 i' (by omega)
        · rw [c198, if_neg e]
          rcases p3 k' y' x' hk' hx' with q | q
          · exact Or.inl q
          · have := laidO_T (e := []) (v' := s3.1) q (show P ≤ P + js.length by omega) (by rw [c198, if_neg e]) (by rw [c197, if_neg e]) c199
            rw [List.append_nil] at this
            exact Or.inr this
      · rw [← hs3]; exact g1
      · rw [c198]
        by_cases e : t = 3 * k + x
        · rw [if_pos e]; exact hne
        · rw [if_neg e]; exact hq
      · rw [c198, if_pos rfl]; exact hne
    | succ q ih =>
      intro i s2 hi g1 g2 g3 g4
      have hM2 : rM s2.2 := by rw [g1]; exact hM
      have e33 : s2.1 186 33 = nI js.length := by rw [g2 186 (by decide), o1 186 33 (by decide) (by decide)]; exact hr.1
      have e17 : s2.1 186 17 = nI P := by rw [g2 186 (by decide), o1 186 17 (by decide) (by decide)]; exact p1
      have e209 : s2.1 209 i = nI (js.getD i 0) := by rw [g2 209 (by decide), o1 209 i (by decide) (by decide)]; exact hr.2 i (by omega)
      refine b_174_302 ⟨so_186, ?_⟩
      rw [e33, e17, if_neg (by rw [nJ_le (by omega) (by omega)]; omega), nJ_add, nI_cl (show i < 2147483648 by omega), nI_cl (show P + i < 2147483648 by omega)]
      refine ⟨199, ⟨so_186, rm_186_16 hM2⟩, so_186, 209, ⟨so_186, rm_186_32 hM2⟩, 200, ⟨sa_209, inR_nI (by omega) (by decide)⟩, 48000, ⟨sa_199, inR_nI (by omega) (by decide)⟩, ?_⟩
      rw [e209]
      have := ih (i + 1) (pV s2 199 (P + i) (nI (js.getD i 0))) (by omega) g1 (fun z hz => by rw [← g2 z hz]; funext t; rw [pV_1, if_neg (by omega)]) (fun t ht => by rw [pV_1, if_neg (by omega)]; exact g3 t (by omega)) (fun t ht => by
        rw [pV_1]
        by_cases e : t = i
        · rw [if_pos ⟨rfl, by omega⟩, e]
        · rw [if_neg (by omega)]; exact g4 t (by omega))
      rw [nI_succ] at this
      exact this
  refine b_174_272 ⟨197, ⟨so_186, rm_186_14 hM⟩, so_186, 4500, ?_⟩
  rw [nI_lit 3, nJ_mul, nJ_add, nI_cl (show 3 * k + x < 2147483648 by omega), p1, show (pV s 197 (3 * k + x) (nI P)).1 186 33 = nI js.length from by rw [pV_1, if_neg (by omega)]; exact hr.1]
  refine ⟨⟨sa_197, inR_nI (by omega) (by decide)⟩, 198, ⟨so_186, rm_186_15 hM⟩, so_186, 4500, ⟨sa_198, inR_nI (by omega) (by decide)⟩, ?_⟩
  rw [hs1]
  exact loop js.length 0 s1 rfl (by rw [← hs1]; rfl) (fun _ _ => rfl) (fun t _ => o1 199 t (by decide) (by decide)) (fun t ht => absurd ht (Nat.not_lt_zero _))
end LB
