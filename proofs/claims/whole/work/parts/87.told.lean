/-! READING, BY THE REFERENCE -/
section RT
variable {L : Nat} {xs : Nat → Int32} {d : Nat} {s : sT} {K : Option Int32 → sT → Prop}
/-- frame of what reads: the table grows; no parts are laid -/
def gt (s s' : sT) (T T' : List Cond) : Prop := fk s s' ∧ s'.1 186 17 = s.1 186 17 ∧ (∃ e, T' = T ++ e) ∧ (∀ t, t < 3 * T.length → s'.1 198 t = s.1 198 t) ∧ ∀ t, 3 * T.length ≤ t → t < 3 * T'.length → s'.1 198 t = -1
theorem gt_refl (s : sT) (T : List Cond) : gt s s T T := ⟨fk_refl s, rfl, ⟨[], (List.append_nil _).symm⟩, fun _ _ => rfl, fun t h1 h2 => by omega⟩
theorem gt_gz {s' : sT} {T T' : List Cond} (h : gz s s' T T') : gt s s' T T' := ⟨fk_gz h, h.2.2.1 17 (by decide) (by decide) (by decide), h.2.2.2.1, h.2.2.2.2.1, h.2.2.2.2.2⟩
theorem gt_trans {s1 s2 : sT} {T T1 T2 : List Cond} (h1 : gt s s1 T T1) (h2 : gt s1 s2 T1 T2) : gt s s2 T T2 := by
  obtain ⟨a1, a2, ⟨e1, a4⟩, a5, a6⟩ := h1
  obtain ⟨b1, b2, ⟨e2, b4⟩, b5, b6⟩ := h2
  have hl : T.length ≤ T1.length := by rw [a4, List.length_append]; omega
  refine ⟨fk_trans a1 b1, b2.trans a2, ⟨e1 ++ e2, by rw [b4, a4, List.append_assoc]⟩, fun t ht => (b5 t (by omega)).trans (a5 t ht), fun t q1 q2 => ?_⟩
  by_cases h : t < 3 * T1.length
  · rw [b5 t h]; exact a6 t q1 h
  · exact b6 t (by omega) q2
theorem gt_put {s1 : sT} {T T1 : List Cond} {c i : Nat} {x : Int32} (h : gt s s1 T T1) (hc : (190 ≤ c ∧ c ≠ 198) ∨ (c = 186 ∧ 4 < i ∧ i ≠ 17)) : gt s (pV s1 c i x) T T1 := by
  obtain ⟨a1, a2, a4, a5, a6⟩ := h
  refine ⟨fk_put a1 (by omega), by rw [pV_1, if_neg (by omega)]; exact a2, a4, fun t ht => by rw [pV_1, if_neg (by omega)]; exact a5 t ht, fun t q1 q2 => by rw [pV_1, if_neg (by omega)]; exact a6 t q1 q2⟩
theorem tb_put {T : List Cond} {c i : Nat} {x : Int32} (h : tb s T) (hc : (c < 190 ∨ 196 < c) ∧ (c = 186 → i ≠ 12 ∧ i ≠ 13)) : tb (pV s c i x) T := by
  obtain ⟨hM, ⟨off, hN⟩, hs⟩ := h
  exact ⟨hM, ⟨off, rN_off hN (by rw [pV_1, if_neg (by omega)]) (by rw [pV_1, if_neg (by omega)]) (fun z q1 q2 => by funext t; rw [pV_1, if_neg (by omega)])⟩, hs⟩
/-- a level: its summands, its factors -/
def lvO (v : Nat → Nat → Int32) (T : List Cond) (k : Nat) (q : List Cond × List Cond) : Prop := q.1.length ≤ 30 ∧ q.2.length ≤ 30 ∧ v 204 k = nI q.1.length ∧ v 205 k = nI q.2.length ∧ (∀ t c, q.1[t]? = some c → ∃ j, T[j]? = some c ∧ v 202 (30 * k + t) = nI j) ∧ ∀ t c, q.2[t]? = some c → ∃ j, T[j]? = some c ∧ v 203 (30 * k + t) = nI j
def blO (v : Nat → Nat → Int32) (T : List Cond) : List (List Cond × List Cond) → Prop
  | [] => True
  | q :: bl => lvO v T bl.length q ∧ blO v T bl
theorem app_at {T e : List Cond} {j : Nat} {c : Cond} (h : T[j]? = some c) : (T ++ e)[j]? = some c := by
  rw [List.getElem?_append_left (List.getElem?_eq_some_iff.mp h).1]; exact h
theorem lvO_off {v v' : Nat → Nat → Int32} {T T' : List Cond} {k : Nat} {q : List Cond × List Cond} (h : lvO v T k q) (hT : ∃ e, T' = T ++ e) (h4 : v' 204 k = v 204 k) (h5 : v' 205 k = v 205 k) (h2 : ∀ t, t < 30 → v' 202 (30 * k + t) = v 202 (30 * k + t)) (h3 : ∀ t, t < 30 → v' 203 (30 * k + t) = v 203 (30 * k + t)) : lvO v' T' k q := by
  obtain ⟨e, rfl⟩ := hT
  obtain ⟨a1, a2, a3, a4, a5, a6⟩ := h
  refine ⟨a1, a2, by rw [h4]; exact a3, by rw [h5]; exact a4, fun t c hc => ?_, fun t c hc => ?_⟩
  · have ht := (List.getElem?_eq_some_iff.mp hc).1
    obtain ⟨j, g1, g2⟩ := a5 t c hc
    exact ⟨j, app_at g1, by rw [h2 t (by omega)]; exact g2⟩
  · have ht := (List.getElem?_eq_some_iff.mp hc).1
    obtain ⟨j, g1, g2⟩ := a6 t c hc
    exact ⟨j, app_at g1, by rw [h3 t (by omega)]; exact g2⟩
theorem blO_off {v v' : Nat → Nat → Int32} {T T' : List Cond} (hT : ∃ e, T' = T ++ e) : ∀ {bl : List (List Cond × List Cond)}, blO v T bl → (∀ k, k < bl.length → v' 204 k = v 204 k ∧ v' 205 k = v 205 k) → (∀ t, t < 30 * bl.length → v' 202 t = v 202 t ∧ v' 203 t = v 203 t) → blO v' T' bl
  | [], _, _, _ => trivial
  | q :: bl, h, h1, h2 => by
    have e : (q :: bl).length = bl.length + 1 := rfl
    rw [e] at h1 h2
    exact ⟨lvO_off h.1 hT (h1 _ (by omega)).1 (h1 _ (by omega)).2 (fun t ht => (h2 _ (by omega)).1) (fun t ht => (h2 _ (by omega)).2), blO_off hT h.2 (fun k hk => h1 k (by omega)) (fun t ht => h2 t (by omega))⟩
/-- a factor more -/
theorem lvO_fac {v v' : Nat → Nat → Int32} {T : List Cond} {k j : Nat} {ss ps : List Cond} {c : Cond} (h : lvO v T k (ss, ps)) (hl : ps.length < 30) (hj : T[j]? = some c) (h4 : v' 204 k = v 204 k) (h5 : v' 205 k = nI (ps.length + 1)) (h2 : ∀ t, t < 30 → v' 202 (30 * k + t) = v 202 (30 * k + t)) (h3 : ∀ t, t < 30 → v' 203 (30 * k + t) = if t = ps.length then nI j else v 203 (30 * k + t)) : lvO v' T k (ss, ps ++ [c]) := by
  obtain ⟨a1, a2, a3, a4, a5, a6⟩ := h
  refine ⟨a1, by rw [List.length_append]; exact hl, by rw [h4]; exact a3, by rw [h5, List.length_append]; rfl, fun t c hc => ?_, fun t c' hc => ?_⟩
  · have ht : t < ss.length := (List.getElem?_eq_some_iff.mp hc).1
    have a1' : ss.length ≤ 30 := a1
    obtain ⟨j, g1, g2⟩ := a5 t c hc
    exact ⟨j, g1, by rw [h2 t (by omega)]; exact g2⟩
  · have ht : t < (ps ++ [c]).length := (List.getElem?_eq_some_iff.mp hc).1
    rw [List.length_append, List.length_singleton] at ht
    rw [h3 t (by omega)]
    by_cases e : t = ps.length
    · rw [if_pos e]
      rw [e, List.getElem?_append_right (Nat.le_refl _), Nat.sub_self] at hc
      cases hc
      exact ⟨j, hj, rfl⟩
    · rw [if_neg e]
      rw [List.getElem?_append_left (by omega)] at hc
      exact a6 t c' hc
theorem row_of {T l : List Cond} {f : Nat → Int32} (h : ∀ t c, l[t]? = some c → ∃ j, T[j]? = some c ∧ f t = nI j) : ∃ js, rwT T js l ∧ ∀ i, i < l.length → f i = nI (js.getD i 0) := by
  have : ∀ i, ∃ q, i < l.length → T[q]? = l[i]? ∧ f i = nI q := by
    intro i
    by_cases hi : i < l.length
    · obtain ⟨q, g1, g2⟩ := h i _ (List.getElem?_eq_getElem hi)
      exact ⟨q, fun _ => ⟨by rw [g1, List.getElem?_eq_getElem hi], g2⟩⟩
    · exact ⟨0, fun h => absurd h hi⟩
  have at' : ∀ i, i < l.length → ((List.range l.length).map fun i => (this i).choose).getD i 0 = (this i).choose := by
    intro i hi
    rw [List.getD_eq_getElem?_getD, List.getElem?_map, List.getElem?_range hi]; rfl
  refine ⟨(List.range l.length).map fun i => (this i).choose, ⟨by simp, fun i hi => ?_⟩, fun i hi => ?_⟩
  · have hi' : i < l.length := by simpa using hi
    rw [at' i hi']; exact ((this i).choose_spec hi').1
  · rw [at' i hi]; exact ((this i).choose_spec hi).2
theorem r_addsFactor {k n j : Nat} (hM : rM s.2) (h25 : s.1 186 25 = nI k) (hk : k < 32) (h205 : s.1 205 k = nI n) (hn : n < 30) (hkn : 30 * k + n < 960) (h : K none (pV (pV s 203 (30 * k + n) (nI j)) 205 k (nI (n + 1)))) : tT (yY L xs) d 163 0 [.ref 186, .int (nI j)] [] s K := by
  refine b_163_0 ⟨203, ⟨so_186, rm_186_22 hM⟩, so_186, 205, ⟨so_186, rm_186_24 hM⟩, so_186, 32, ?_⟩
  have e25 : ∀ x, (pV s 203 x (nI j)).1 186 25 = nI k := fun x => by rw [pV_1, if_neg (by omega)]; exact h25
  rw [h25, nI_cl (show k < 2147483648 by omega), h205, nI_lit 30, nJ_mul, nJ_add, e25, nI_cl (show 30 * k + n < 2147483648 by omega), nI_cl (show k < 2147483648 by omega)]
  refine ⟨⟨sa_205, inR_nI hk (by decide)⟩, 960, ⟨sa_203, inR_nI hkn (by decide)⟩, 205, ⟨so_186, rm_186_24 hM⟩, so_186, 32, ⟨sa_205, inR_nI hk (by decide)⟩, 32, ⟨sa_205, inR_nI hk (by decide)⟩, ?_⟩
  rw [show (pV s 203 (30 * k + n) (nI j)).1 205 k = nI n from by rw [pV_1, if_neg (by omega)]; exact h205, ← nI_succ]
  exact h
theorem r_opens {k : Nat} (hM : rM s.2) (h25 : s.1 186 25 = nI k) (hk : k < 32) (h : K none (pV (pV s 204 k 0) 205 k 0)) : tT (yY L xs) d 162 0 [.ref 186] [] s K := by
  refine b_162_0 ⟨204, ⟨so_186, rm_186_23 hM⟩, so_186, 32, ?_⟩
  have e25 : ∀ x, (pV s 204 x 0).1 186 25 = nI k := fun x => by rw [pV_1, if_neg (by omega)]; exact h25
  rw [e25, h25, nI_cl (show k < 2147483648 by omega)]
  exact ⟨⟨sa_204, inR_nI hk (by decide)⟩, 205, ⟨so_186, rm_186_24 hM⟩, so_186, 32, ⟨sa_205, inR_nI hk (by decide)⟩, h⟩
/-- the product of a level's factors becomes a summand -/
theorem r_endsProduct {T : List Cond} {k : Nat} {ss ps : List Cond} (hT : tb s T) (hl : T.length < 1500) (hp : pn T + 150 ≤ 24000) (h25 : s.1 186 25 = nI k) (hk : k < 32) (hlv : lvO s.1 T k (ss, ps)) (hss : ss.length < 30) (h1 : 30 * k + ss.length < 960) (h2 : 30 * k + ps.length ≤ 960) (hf : (ps.flatMap prodL).length < 400) (hz : z1 (sProd ps) ≤ 150)
    (h : ∀ s1 s' T', tb s' T' → gw s s1 T T' → s' = pV (pV (pV s1 202 (30 * k + ss.length) (s'.1 202 (30 * k + ss.length))) 204 k (nI (ss.length + 1))) 205 k 0 → lvO s'.1 T' k (ss ++ [sProd ps], []) → ad T (sProd ps) T' → K none s') : tT (yY L xs) (d + 4) 164 0 [.ref 186] [] s K := by
  have hM := hT.1
  obtain ⟨a1, a2, a3, a4, a5, a6⟩ := hlv
  have a3 : s.1 204 k = nI ss.length := a3
  have a4 : s.1 205 k = nI ps.length := a4
  obtain ⟨js, hj1, hj2⟩ := row_of (f := fun t => s.1 203 (30 * k + t)) a6
  refine b_164_0 ⟨202, ⟨so_186, rm_186_21 hM⟩, so_186, 204, ⟨so_186, rm_186_23 hM⟩, so_186, 32, ?_⟩
  rw [h25, nI_cl (show k < 2147483648 by omega), a3, nI_lit 30, nJ_mul, nJ_add]
  refine ⟨⟨sa_204, inR_nI hk (by decide)⟩, 203, ⟨so_186, rm_186_22 hM⟩, so_186, 205, ⟨so_186, rm_186_24 hM⟩, so_186, 32, ⟨sa_205, inR_nI hk (by decide)⟩, so_186, ?_⟩
  rw [a4]
  refine r_prod (l := ps) (js0 := js) (m := 960) hT hl hp sa_203 h2 (by decide) (by decide) hj1 hj2 hf hz (fun s1 T' j q1 q2 q3 q4 => ?_)
  rw [rt_some]
  have hM1 := q1.1
  have e25 : s1.1 186 25 = nI k := by rw [q2.2.2.1 25 (by decide) (by decide) (by decide)]; exact h25
  have c204 : s1.1 204 = s.1 204 := q2.2.1 204 (by decide) (Or.inr (by decide)) (by decide) (by decide)
  have c202 : s1.1 202 = s.1 202 := q2.2.1 202 (by decide) (Or.inr (by decide)) (by decide) (by decide)
  refine b_164_45 ⟨960, ⟨sa_202, inR_nI h1 (by decide)⟩, 204, ⟨so_186, rm_186_23 hM1⟩, so_186, 32, ?_⟩
  rw [nI_cl (show 30 * k + ss.length < 2147483648 by omega)]
  have f1 : (pV s1 202 (30 * k + ss.length) (nI j)).1 186 25 = nI k := by rw [pV_1, if_neg (by omega)]; exact e25
  have f2 : (pV s1 202 (30 * k + ss.length) (nI j)).1 204 k = nI ss.length := by rw [pV_1, if_neg (by omega), c204]; exact a3
  rw [f1, nI_cl (show k < 2147483648 by omega), f2, ← nI_succ]
  have f3 : (pV (pV s1 202 (30 * k + ss.length) (nI j)) 204 k (nI (ss.length + 1))).1 186 25 = nI k := by rw [pV_1, if_neg (by omega)]; exact f1
  rw [f3, nI_cl (show k < 2147483648 by omega)]
  refine ⟨⟨sa_204, inR_nI hk (by decide)⟩, 32, ⟨sa_204, inR_nI hk (by decide)⟩, 205, ⟨so_186, rm_186_24 hM1⟩, so_186, 32, ⟨sa_205, inR_nI hk (by decide)⟩, ?_⟩
  refine h s1 _ T' (tb_put (tb_put (tb_put q1 ⟨by omega, by omega⟩) ⟨by omega, by omega⟩) ⟨by omega, by omega⟩) q2 ?_ ?_ q3
  · rw [show (pV (pV (pV s1 202 (30 * k + ss.length) (nI j)) 204 k (nI (ss.length + 1))) 205 k 0).1 202 (30 * k + ss.length) = nI j from by rw [pV_1, if_neg (by omega), pV_1, if_neg (by omega), pV_1, if_pos ⟨rfl, rfl⟩]]
  · refine ⟨by rw [List.length_append]; exact hss, Nat.zero_le _, ?_, ?_, fun t c hc => ?_, fun t c hc => by cases hc⟩
    · rw [pV_1, if_neg (by omega), pV_1, if_pos ⟨rfl, rfl⟩, List.length_append]; rfl
    · rw [pV_1, if_pos ⟨rfl, rfl⟩]; rfl
    · have ht : t < (ss ++ [sProd ps]).length := (List.getElem?_eq_some_iff.mp hc).1
      rw [List.length_append, List.length_singleton] at ht
      rw [pV_1, if_neg (by omega), pV_1, if_neg (by omega), pV_1]
      by_cases e : t = ss.length
      · subst e
        rw [if_pos ⟨rfl, rfl⟩]
        rw [List.getElem?_append_right (Nat.le_refl _), Nat.sub_self] at hc
        cases hc
        exact ⟨j, q4, rfl⟩
      · rw [if_neg (by omega), c202]
        rw [List.getElem?_append_left (by omega)] at hc
        obtain ⟨j', g1, g2⟩ := a5 t c hc
        obtain ⟨e', he⟩ := q2.2.2.2.1
        exact ⟨j', by rw [he]; exact app_at g1, g2⟩
/-- the sum of a level -/
theorem r_endsSum {T : List Cond} {k : Nat} {ss ps : List Cond} (hT : tb s T) (hl : T.length + 1 < 1500) (hp : pn T + 300 ≤ 24000) (h25 : s.1 186 25 = nI k) (hk : k < 32) (hlv : lvO s.1 T k (ss, ps)) (hss : ss.length < 30) (h1 : 30 * k + ss.length < 960) (h2 : 30 * k + ps.length ≤ 960) (hf : (ps.flatMap prodL).length < 400) (hz : z1 (sProd ps) ≤ 150) (hf2 : ((ss ++ [sProd ps]).flatMap sumL).length < 400) (hz2 : z1 (sSum (ss ++ [sProd ps])) ≤ 150)
    (h : ∀ s' T' T'' j, tb s' T'' → gt s s' T T'' → (∀ i, i < k → s'.1 204 i = s.1 204 i ∧ s'.1 205 i = s.1 205 i) → (∀ t, t < 30 * k → s'.1 202 t = s.1 202 t) → s'.1 203 = s.1 203 → s'.1 186 25 = nI k → s'.1 186 26 = s.1 186 26 → ad T (sProd ps) T' → ad T' (sSum (ss ++ [sProd ps])) T'' → T''[j]? = some (sSum (ss ++ [sProd ps])) → K (some (nI j)) s') : tT (yY L xs) (d + 5) 165 0 [.ref 186] [] s K := by
  refine b_165_0 ⟨so_186, r_endsProduct hT (by omega) (by omega) h25 hk hlv hss h1 h2 hf hz (fun s1 s2 T' q1 q2 q3 q4 q5 => ?_)⟩
  rw [rt_none]
  have hM2 := q1.1
  have hl' := ad_len q5
  have hp' := ad_pn q5
  have cz := nch_z (tb_cn q1 (show sProd ps ∈ T' from by
    rcases q5 with ⟨e, hm⟩ | ⟨e, -⟩
    · rw [e]; exact hm
    · rw [e]; exact List.mem_append_right _ List.mem_cons_self))
  have cz1 := z01 (tb_cn q1 (show sProd ps ∈ T' from by
    rcases q5 with ⟨e, hm⟩ | ⟨e, -⟩
    · rw [e]; exact hm
    · rw [e]; exact List.mem_append_right _ List.mem_cons_self))
  have w : ∀ c i, c ≠ 202 → c ≠ 204 → c ≠ 205 → s2.1 c i = s1.1 c i := fun c i g1 g2 g3 => by rw [q3, pV_1, if_neg (by omega), pV_1, if_neg (by omega), pV_1, if_neg (by omega)]
  have w25 : s2.1 186 25 = nI k := by rw [w 186 25 (by decide) (by decide) (by decide), q2.2.2.1 25 (by decide) (by decide) (by decide)]; exact h25
  obtain ⟨js, hj1, hj2⟩ := row_of (f := fun t => s2.1 202 (30 * k + t)) q4.2.2.2.2.1
  have a3 : s2.1 204 k = nI (ss ++ [sProd ps]).length := q4.2.2.1
  refine b_165_4 ⟨202, ⟨so_186, rm_186_21 hM2⟩, so_186, 204, ⟨so_186, rm_186_23 hM2⟩, so_186, 32, ?_⟩
  rw [w25, nI_cl (show k < 2147483648 by omega), a3, nI_lit 30, nJ_mul]
  refine ⟨⟨sa_204, inR_nI hk (by decide)⟩, so_186, ?_⟩
  refine r_sum (l := ss ++ [sProd ps]) (js0 := js) (m := 960) q1 (by omega) (by omega) sa_202 (by rw [List.length_append, List.length_singleton]; omega) (by decide) (by decide) hj1 hj2 hf2 hz2 (fun s3 T'' j g1 g2 g3 g4 => ?_)
  rw [rt_some]
  have g12 : gt s s2 T T' := by rw [q3]; exact gt_put (gt_put (gt_put (gt_gz (gz_gw q2)) (by omega)) (by omega)) (by omega)
  have cc : ∀ c, 202 ≤ c → c ≤ 205 → s3.1 c = s2.1 c ∧ s1.1 c = s.1 c := fun c h1 h2 => ⟨g2.2.1 c (by omega) (by omega) (by omega) (by omega), q2.2.1 c (by omega) (by omega) (by omega) (by omega)⟩
  refine b_165_28 (h s3 T' T'' j g1 (gt_trans g12 (gt_gz (gz_gw g2))) (fun i hi => ⟨?_, ?_⟩) (fun t ht => ?_) ?_ ?_ ?_ q5 g3 g4)
  · rw [(cc 204 (by decide) (by decide)).1, q3, pV_1, if_neg (by omega), pV_1, if_neg (by omega), pV_1, if_neg (by omega), (cc 204 (by decide) (by decide)).2]
  · rw [(cc 205 (by decide) (by decide)).1, q3, pV_1, if_neg (by omega), pV_1, if_neg (by omega), pV_1, if_neg (by omega), (cc 205 (by decide) (by decide)).2]
  · rw [(cc 202 (by decide) (by decide)).1, q3, pV_1, if_neg (by omega), pV_1, if_neg (by omega), pV_1, if_neg (by omega), (cc 202 (by decide) (by decide)).2]
  · rw [(cc 203 (by decide) (by decide)).1, ← (cc 203 (by decide) (by decide)).2]
    funext t
    exact w 203 t (by decide) (by decide) (by decide)
  · rw [g2.2.2.1 25 (by decide) (by decide) (by decide)]; exact w25
  · rw [g2.2.2.1 26 (by decide) (by decide) (by decide), w 186 26 (by decide) (by decide) (by decide), q2.2.2.1 26 (by decide) (by decide) (by decide)]
end RT
