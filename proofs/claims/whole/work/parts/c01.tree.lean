/-! THE CLASS'S TREE: each shape but once, its number is its place in T -/
def kC : Cond → Nat
  | .or _ _ => 1
  | .and _ _ => 2
  | .not _ => 3
  | _ => 0
def ndC (v : Nat → Nat → Int32) (T : List Cond) (k : Nat) (y : Cond) (o : Nat) : Prop := v 2 k = nI (kC y) ∧ v 4 k = nI (chl y).length ∧ v 5 k = sh y ∧ v 6 k = nI (ns y) ∧ (1 ≤ kC y → v 3 k = nI o) ∧ ∀ i c, (chl y)[i]? = some c → ∃ j, T[j]? = some c ∧ v 7 (o + i) = nI j
def rC (v : Nat → Nat → Int32) (T : List Cond) (off : Nat → Nat) (p : Nat) : Prop := v 1 7 = nI T.length ∧ v 1 8 = nI p ∧ T.Nodup ∧ (∀ y ∈ T, cn y) ∧ (∀ k, k < 5 → T[k]? = some (.count k)) ∧ (∀ k y, 5 ≤ k → T[k]? = some y → 1 ≤ kC y) ∧ ∀ k y, T[k]? = some y → ndC v T k y (off k) ∧ off k + (chl y).length ≤ p
def tc (s : sT) (T : List Cond) (p : Nat) : Prop := rP s.2 ∧ T.length ≤ 160 ∧ p ≤ 2048 ∧ ∃ off, rC s.1 T off p
theorem kC_kd {y : Cond} (cy : cn y) : (1 ≤ kC y ↔ 3 ≤ kd y) ∧ (1 ≤ kC y → kd y = kC y + 2) := by
  cases y with
  | or a b => exact ⟨⟨fun _ => show 3 ≤ 3 by decide, fun _ => show 1 ≤ 1 by decide⟩, fun _ => rfl⟩
  | and a b => exact ⟨⟨fun _ => show 3 ≤ 4 by decide, fun _ => show 1 ≤ 2 by decide⟩, fun _ => rfl⟩
  | not a => exact ⟨⟨fun _ => show 3 ≤ 5 by decide, fun _ => show 1 ≤ 3 by decide⟩, fun _ => rfl⟩
  | count k => exact ⟨⟨fun h => absurd h (show ¬ 1 ≤ 0 by decide), fun h => by have := kd_atom k; omega⟩, fun h => absurd h (show ¬ 1 ≤ 0 by decide)⟩
  | _ => exact cy.elim
theorem kC_le (y : Cond) : kC y ≤ 3 := by cases y <;> (first | exact (show 0 ≤ 3 by decide) | exact (show 1 ≤ 3 by decide) | exact (show 2 ≤ 3 by decide) | exact (show 3 ≤ 3 by decide))
theorem kC_1 {y : Cond} (h : kC y = 1) : sumL y = chl y ∧ ∃ a b, y = .or a b := by
  cases y <;> first | exact ⟨rfl, _, _, rfl⟩ | cases h
theorem kC_2 {y : Cond} (h : kC y = 2) : prodL y = chl y ∧ ∃ a b, y = .and a b := by
  cases y <;> first | exact ⟨rfl, _, _, rfl⟩ | cases h
theorem kC_3 {y : Cond} (h : kC y = 3) : ∃ a, y = .not a := by
  cases y <;> first | exact ⟨_, rfl⟩ | cases h
theorem kC_n1 {y : Cond} (h : kC y ≠ 1) : isSum y = false := by cases y <;> first | rfl | exact absurd rfl h
theorem kC_n2 {y : Cond} (h : kC y ≠ 2) : isProd y = false := by cases y <;> first | rfl | exact absurd rfl h
theorem kC_n3 {y : Cond} (h : kC y ≠ 3) : isStar y = false := by cases y <;> first | rfl | exact absurd rfl h
theorem kC_0 {y : Cond} (cy : cn y) (h : kC y = 0) : ∃ k, k < 5 ∧ y = .count k := by
  cases y with
  | count k => exact ⟨k, cy, rfl⟩
  | or a b => cases h
  | and a b => cases h
  | not a => cases h
  | _ => exact cy.elim
section TC
variable {L : Nat} {xs : Nat → Int32} {d : Nat} {s : sT} {K : Option Int32 → sT → Prop} {T : List Cond} {p : Nat}
theorem tc_lt (h : tc s T p) {k : Nat} {y : Cond} (hk : T[k]? = some y) : k < 160 ∧ k < T.length := by
  have := (List.getElem?_eq_some_iff.mp hk).1
  have := h.2.1
  omega
theorem tc_cn (h : tc s T p) {k : Nat} {y : Cond} (hk : T[k]? = some y) : cn y := by
  obtain ⟨_, _, _, off, hN⟩ := h
  exact hN.2.2.2.1 y (List.mem_of_getElem? hk)
theorem tc_nd (h : tc s T p) : T.Nodup := by
  obtain ⟨_, _, _, off, hN⟩ := h
  exact hN.2.2.1
theorem tc_7 (h : tc s T p) : s.1 1 7 = nI T.length := by
  obtain ⟨_, _, _, off, hN⟩ := h
  exact hN.1
theorem tc_5 (h : tc s T p) : ∀ k, k < 5 → T[k]? = some (.count k) := by
  obtain ⟨_, _, _, off, hN⟩ := h
  exact hN.2.2.2.2.1
theorem tc_eq (h : tc s T p) {i j : Nat} {y c : Cond} (h1 : T[i]? = some y) (h2 : T[j]? = some c) : i = j ↔ y = c := by
  constructor
  · intro e; subst e; rw [h1] at h2; cases h2; rfl
  · intro e; subst e; exact (List.getElem?_inj (List.getElem?_eq_some_iff.mp h1).1 (tc_nd h)).mp (h1.trans h2.symm)
theorem c_kindOf (h : tc s T p) {k : Nat} {y : Cond} (hk : T[k]? = some y) (hK : K (some (nI (kC y))) s) : tT (yY L xs) d 81 0 [.ref 1, .int (nI k)] [] s K := by
  have hl := tc_lt h hk
  obtain ⟨hP, h160, hp, off, hN⟩ := h
  refine b_81_0 ?_
  rw [if_neg (nI_nn (by omega))]
  refine ⟨so_1, ?_⟩
  rw [hN.1, if_neg (by rw [nJ_le (by omega) (by omega)]; omega)]
  refine ⟨2, ⟨so_1, rp_1_0 hP⟩, 160, ⟨sa_2, inR_nI hl.1 (by decide)⟩, ?_⟩
  rw [nI_cl (by omega), (hN.2.2.2.2.2.2 k y hk).1.1]
  exact hK
theorem c_childrenOf (h : tc s T p) {k : Nat} {y : Cond} (hk : T[k]? = some y) (hK : K (some (nI (chl y).length)) s) : tT (yY L xs) d 82 0 [.ref 1, .int (nI k)] [] s K := by
  have hl := tc_lt h hk
  obtain ⟨hP, h160, hp, off, hN⟩ := h
  refine b_82_0 ?_
  rw [if_neg (nI_nn (by omega))]
  refine ⟨so_1, ?_⟩
  rw [hN.1, if_neg (by rw [nJ_le (by omega) (by omega)]; omega)]
  refine ⟨4, ⟨so_1, rp_1_2 hP⟩, 160, ⟨sa_4, inR_nI hl.1 (by decide)⟩, ?_⟩
  rw [nI_cl (by omega), (hN.2.2.2.2.2.2 k y hk).1.2.1]
  exact hK
theorem chl_kC {y : Cond} {i : Nat} {c : Cond} (h : (chl y)[i]? = some c) : 1 ≤ kC y := by
  cases y with
  | or a b => exact (show 1 ≤ 1 by decide)
  | and a b => exact (show 1 ≤ 2 by decide)
  | not a => exact (show 1 ≤ 3 by decide)
  | _ => cases h
theorem c_childOf (h : tc s T p) {k i : Nat} {y c : Cond} (hk : T[k]? = some y) (hc : (chl y)[i]? = some c) (hK : ∀ j, T[j]? = some c → K (some (nI j)) s) : tT (yY L xs) d 83 0 [.ref 1, .int (nI k), .int (nI i), .null] [] s K := by
  have hl := tc_lt h hk
  have hi := (List.getElem?_eq_some_iff.mp hc).1
  obtain ⟨hP, h160, hp, off, hN⟩ := h
  obtain ⟨⟨n1, n2, n3, n4, n5, n6⟩, n7⟩ := hN.2.2.2.2.2.2 k y hk
  obtain ⟨j, j1, j2⟩ := n6 i c hc
  have ck : (nI k).toNatClampNeg = k := nI_cl (by omega)
  have ink : inR (nI k) 160 := inR_nI hl.1 (by decide)
  refine b_83_0 ?_
  rw [if_neg (nI_nn (by omega))]
  refine ⟨so_1, ?_⟩
  rw [hN.1, if_neg (by rw [nJ_le (by omega) (by omega)]; omega), if_neg (nI_nn (by omega))]
  refine ⟨4, ⟨so_1, rp_1_2 hP⟩, 160, ⟨sa_4, ink⟩, ?_⟩
  rw [ck, n2, if_neg (by rw [nJ_le (by omega) (by omega)]; omega)]
  refine b_83_31 ?_
  rw [if_neg (by decide)]
  refine ⟨7, ⟨so_1, rp_1_5 hP⟩, 3, ⟨so_1, rp_1_1 hP⟩, 160, ⟨sa_3, ink⟩, 2048, ?_⟩
  rw [ck, n5 (chl_kC hc), nJ_add, nI_cl (show off k + i < 2147483648 by omega), j2]
  exact ⟨⟨sa_7, inR_nI (by omega) (by decide)⟩, hK j j1⟩
theorem c_shortestOf (h : tc s T p) {k : Nat} {y : Cond} (hk : T[k]? = some y) (hK : K (some (sh y)) s) : tT (yY L xs) d 84 0 [.ref 1, .int (nI k)] [] s K := by
  have hl := tc_lt h hk
  obtain ⟨hP, h160, hp, off, hN⟩ := h
  refine b_84_0 ?_
  rw [if_neg (nI_nn (by omega))]
  refine ⟨so_1, ?_⟩
  rw [hN.1, if_neg (by rw [nJ_le (by omega) (by omega)]; omega)]
  refine ⟨5, ⟨so_1, rp_1_3 hP⟩, 160, ⟨sa_5, inR_nI hl.1 (by decide)⟩, ?_⟩
  rw [nI_cl (by omega), (hN.2.2.2.2.2.2 k y hk).1.2.2.1]
  exact hK
theorem c_nestOf (h : tc s T p) {k : Nat} {y : Cond} (hk : T[k]? = some y) (hK : K (some (nI (ns y))) s) : tT (yY L xs) d 85 0 [.ref 1, .int (nI k)] [] s K := by
  have hl := tc_lt h hk
  obtain ⟨hP, h160, hp, off, hN⟩ := h
  refine b_85_0 ?_
  rw [if_neg (nI_nn (by omega))]
  refine ⟨so_1, ?_⟩
  rw [hN.1, if_neg (by rw [nJ_le (by omega) (by omega)]; omega)]
  refine ⟨6, ⟨so_1, rp_1_4 hP⟩, 160, ⟨sa_6, inR_nI hl.1 (by decide)⟩, ?_⟩
  rw [nI_cl (by omega), (hN.2.2.2.2.2.2 k y hk).1.2.2.2.1]
  exact hK
theorem sh_full {y : Cond} (cy : cn y) (hz : shN y < 100000) : sh y = 0 ↔ full y = true := by
  unfold sh
  by_cases h0 : y = S0
  · rw [if_pos h0, h0]; exact ⟨fun h => absurd h (by decide), fun h => absurd h (by decide)⟩
  · rw [if_neg h0, full_shN cy h0]
    exact nJ_eq (a := shN y) (b := 0) (by omega) (by omega)
theorem c_isFull (h : tc s T p) {k : Nat} {y : Cond} (hk : T[k]? = some y) (hz : shN y < 100000) (hK : K (some (bz (full y))) s) : tT (yY L xs) (d + 1) 86 0 [.ref 1, .int (nI k)] [] s K := by
  have cy := tc_cn h hk
  refine b_86_0 ⟨so_1, c_shortestOf h hk ?_⟩
  rw [rt_some]
  refine b_86_5 ?_
  have hf := sh_full cy hz
  cases e : full y with
  | false =>
    rw [e] at hf hK
    rw [if_pos (fun q => by have := hf.mp q; cases this)]
    exact hK
  | true =>
    rw [e] at hf hK
    rw [if_neg (fun q => q (hf.mpr rfl))]
    exact hK
/-- the tree may change, and the stack from m on -/
def fT (s s' : sT) (m : Nat) : Prop := s'.2 = s.2 ∧ (∀ z, (z = 0 ∨ 8 < z) → s'.1 z = s.1 z) ∧ ∀ t, t < m → s'.1 8 t = s.1 8 t
theorem fT_refl (s : sT) (m : Nat) : fT s s m := ⟨rfl, fun _ _ => rfl, fun _ _ => rfl⟩
theorem fT_trans {s1 s2 : sT} {m : Nat} (h1 : fT s s1 m) (h2 : fT s1 s2 m) : fT s s2 m := ⟨h2.1.trans h1.1, fun z hz => (h2.2.1 z hz).trans (h1.2.1 z hz), fun t ht => (h2.2.2 t ht).trans (h1.2.2 t ht)⟩
theorem fT_mono {s1 : sT} {m n : Nat} (h : fT s s1 n) (hm : m ≤ n) : fT s s1 m := ⟨h.1, h.2.1, fun t ht => h.2.2 t (by omega)⟩
theorem fT_put {s1 : sT} {m c i : Nat} {v : Int32} (h : fT s s1 m) (hc : 0 < c ∧ c ≤ 8 ∧ (c = 8 → m ≤ i)) : fT s (pV s1 c i v) m := ⟨h.1, fun z hz => by rw [← h.2.1 z hz]; funext t; rw [pV_1, if_neg (by omega)], fun t ht => by rw [pV_1, if_neg (by omega)]; exact h.2.2 t ht⟩
/-- the stack above m -/
def opO (v : Nat → Nat → Int32) (T : List Cond) (m : Nat) (l : List Cond) : Prop := v 1 9 = nI (m + l.length) ∧ ∀ i c, l[i]? = some c → ∃ j, T[j]? = some c ∧ v 8 (m + i) = nI j
theorem tc_off {s1 : sT} (h : tc s T p) (h2 : s1.2 = s.2) (h7 : s1.1 1 7 = s.1 1 7) (h8 : s1.1 1 8 = s.1 1 8) (hz : ∀ z, 2 ≤ z → z ≤ 7 → s1.1 z = s.1 z) : tc s1 T p := by
  obtain ⟨hP, h160, hp, off, hN⟩ := h
  refine ⟨by rw [h2]; exact hP, h160, hp, off, ?_⟩
  unfold rC ndC at hN ⊢
  rw [h7, h8, hz 2 (by decide) (by decide), hz 3 (by decide) (by decide), hz 4 (by decide) (by decide), hz 5 (by decide) (by decide), hz 6 (by decide) (by decide), hz 7 (by decide) (by decide)]
  exact hN
theorem c_push {m j : Nat} {l : List Cond} {c : Cond} (h : tc s T p) (ho : opO s.1 T m l) (hl : m + l.length < 136) (hj : T[j]? = some c) (hK : ∀ s', tc s' T p → opO s'.1 T m (l ++ [c]) → fT s s' (m + l.length) → K none s') : tT (yY L xs) d 96 0 [.ref 1, .int (nI j)] [] s K := by
  have hP := h.1
  refine b_96_0 ⟨so_1, 8, ⟨so_1, rp_1_6 hP⟩, 0, 136, sa_8, ?_⟩
  rw [ho.1, if_neg (by rw [ofNat_nI, nJ_le (by omega) (by omega)]; omega), nI_cl (by omega)]
  refine ⟨8, ⟨so_1, rp_1_6 hP⟩, so_1, 136, ⟨sa_8, inR_nI hl (by decide)⟩, so_1, so_1, ?_⟩
  rw [pV_1, if_neg (by omega), ho.1, ← nI_succ]
  refine hK _ (tc_off h rfl ?_ ?_ (fun z h1 h2 => ?_)) ⟨?_, fun i c' hc' => ?_⟩ (fT_put (fT_put (fT_refl s _) (by omega)) (by omega))
  · rw [pV_1, if_neg (by omega), pV_1, if_neg (by omega)]
  · rw [pV_1, if_neg (by omega), pV_1, if_neg (by omega)]
  · funext t; rw [pV_1, if_neg (by omega), pV_1, if_neg (by omega)]
  · rw [pV_1, if_pos ⟨rfl, rfl⟩, List.length_append, List.length_singleton]; rfl
  · rw [pV_1, if_neg (by omega), pV_1]
    by_cases e : i < l.length
    · rw [List.getElem?_append_left e] at hc'
      rw [if_neg (by omega)]
      exact ho.2 i c' hc'
    · have hi := (List.getElem?_eq_some_iff.mp hc').1
      rw [List.length_append, List.length_singleton] at hi
      have : i = l.length := by omega
      subst this
      rw [List.getElem?_append_right (Nat.le_refl _), Nat.sub_self] at hc'
      cases hc'
      exact ⟨j, hj, by rw [if_pos ⟨rfl, rfl⟩]⟩
theorem c_addOnce {m j : Nat} {l : List Cond} {c : Cond} (h : tc s T p) (ho : opO s.1 T m l) (hl : m + l.length < 136) (hj : T[j]? = some c) (hK : ∀ s', tc s' T p → opO s'.1 T m (ddp l [c]) → fT s s' m → K none s') : tT (yY L xs) (d + 1) 97 0 [.ref 1, .int (nI m), .int (nI j), .null] [] s K := by
  have hP := h.1
  have hjl := tc_lt h hj
  rw [ddp_one] at hK
  have loop : ∀ q i, q + i = l.length → (∀ t, t < i → l[t]? ≠ some c) → tT (yY L xs) (d + 1) 97 2 [.ref 1, .int (nI m), .int (nI j), .int (nI (m + i))] [] s K := by
    intro q
    induction q with
    | zero =>
      intro i hi hn
      refine b_97_2 ⟨so_1, ?_⟩
      rw [ho.1, if_pos (by rw [nJ_le (by omega) (by omega)]; omega)]
      have hc : c ∉ l := fun hc => by
        obtain ⟨t, ht⟩ := List.getElem?_of_mem hc
        have := (List.getElem?_eq_some_iff.mp ht).1
        exact hn t (by omega) ht
      rw [if_neg hc] at hK
      refine ⟨so_1, c_push h ho hl hj (fun s' q1 q2 q3 => ?_)⟩
      rw [rt_none]
      exact b_97_32 (hK s' q1 q2 (fT_mono q3 (by omega)))
    | succ q ih =>
      intro i hi hn
      have hi' : i < l.length := by omega
      obtain ⟨j', g1, g2⟩ := ho.2 i _ (List.getElem?_eq_getElem hi')
      have hjl' := tc_lt h g1
      refine b_97_2 ⟨so_1, ?_⟩
      rw [ho.1, if_neg (by rw [nJ_le (by omega) (by omega)]; omega)]
      refine ⟨8, ⟨so_1, rp_1_6 hP⟩, 136, ⟨sa_8, inR_nI (by omega) (by decide)⟩, ?_⟩
      rw [nI_cl (by omega), g2]
      by_cases e : l[i] = c
      · have := (tc_eq h g1 hj).mpr e
        rw [if_neg (by rw [this]; exact fun q => q rfl)]
        rw [if_pos (by rw [← e]; exact List.getElem_mem _)] at hK
        exact hK s h ho (fT_refl s m)
      · rw [if_pos (by rw [nJ_eq (by omega) (by omega)]; exact fun q => e ((tc_eq h g1 hj).mp q)), ← nI_succ]
        exact ih (i + 1) (by omega) (fun t ht => by
          by_cases et : t = i
          · subst et
            rw [List.getElem?_eq_getElem hi']
            intro q
            cases q
            exact e rfl
          · exact hn t (by omega))
  exact b_97_0 (loop l.length 0 (by omega) (fun t ht => absurd ht (Nat.not_lt_zero _)))
theorem c_addSummand {m k : Nat} {l : List Cond} {y : Cond} (h : tc s T p) (ho : opO s.1 T m l) (hl : m + l.length + (sumL y).length < 136) (hk : T[k]? = some y) (hK : ∀ s', tc s' T p → opO s'.1 T m (ddp l (sumL y)) → fT s s' m → K none s') : tT (yY L xs) (d + 2) 88 0 [.ref 1, .int (nI m), .int (nI k), .null] [] s K := by
  have hkl := tc_lt h hk
  have hkC := kC_le y
  refine b_88_0 ⟨so_1, c_kindOf h hk ?_⟩
  rw [rt_some]
  refine b_88_5 ?_
  by_cases h1 : kC y = 1
  · rw [if_neg (by rw [h1]; exact fun q => q rfl)]
    obtain ⟨e1, -⟩ := kC_1 h1
    rw [e1] at hK hl
    have loop : ∀ q i (s1 : sT), q + i = (chl y).length → tc s1 T p → opO s1.1 T m (ddp l ((chl y).take i)) → fT s s1 m → tT (yY L xs) (d + 2) 88 11 [.ref 1, .int (nI m), .int (nI k), .int (nI i)] [] s1 K := by
      intro q
      induction q with
      | zero =>
        intro i s1 hi g1 g2 g3
        refine b_88_11 ⟨so_1, c_childrenOf g1 hk ?_⟩
        rw [rt_some]
        refine b_88_17 ?_
        rw [if_pos (by rw [nJ_le (by omega) (by omega)]; omega)]
        rw [show i = (chl y).length by omega, List.take_length] at g2
        exact b_88_50 (hK s1 g1 g2 g3)
      | succ q ih =>
        intro i s1 hi g1 g2 g3
        have hi' : i < (chl y).length := by omega
        refine b_88_11 ⟨so_1, c_childrenOf g1 hk ?_⟩
        rw [rt_some]
        refine b_88_17 ?_
        rw [if_neg (by rw [nJ_le (by omega) (by omega)]; omega)]
        refine ⟨so_1, c_childOf g1 hk (List.getElem?_eq_getElem hi') (fun j hj => ?_)⟩
        rw [rt_some]
        have hb : (ddp l ((chl y).take i)).length ≤ l.length + i := by
          have := ddp_len (l := (chl y).take i) (acc := l)
          rw [List.length_take] at this
          omega
        refine b_88_28 ⟨so_1, c_addOnce g1 g2 (by omega) hj (fun s2 q1 q2 q3 => ?_)⟩
        rw [rt_none]
        refine b_88_31 ?_
        rw [← nI_succ]
        exact ih (i + 1) s2 (by omega) q1 (by rw [List.take_succ_eq_append_getElem hi', ddp_app]; exact q2) (fT_trans g3 q3)
    exact loop _ 0 s rfl h (by rw [List.take_zero]; exact ho) (fT_refl s m)
  · rw [if_pos (show ¬ nI (kC y) = 1 from fun e => h1 ((nJ_eq (by omega) (by decide)).mp e))]
    have hS := kC_n1 h1
    by_cases h0 : y = S0
    · have ek : k = 0 := (tc_eq h hk (tc_5 h 0 (by decide))).mpr h0
      rw [if_pos (show nI k = 0 by rw [ek]; rfl)]
      rw [h0, sumL_S0] at hK
      exact b_88_50 (hK s h ho (fT_refl s m))
    · have ek : k ≠ 0 := fun e => h0 ((tc_eq h hk (tc_5 h 0 (by decide))).mp e)
      rw [if_neg (show ¬ nI k = 0 from fun e => ek ((nJ_eq (b := 0) (by omega) (by decide)).mp e))]
      rw [sumL_one hS h0] at hK hl
      rw [List.length_singleton] at hl
      refine ⟨so_1, c_addOnce h ho (by omega) hk (fun s2 q1 q2 q3 => ?_)⟩
      rw [rt_none]
      exact b_88_50 (hK s2 q1 q2 q3)
theorem c_addFactor {m k : Nat} {l : List Cond} {y : Cond} (h : tc s T p) (ho : opO s.1 T m l) (hl : m + l.length + (prodL y).length ≤ 136) (hk : T[k]? = some y) (hK : ∀ s', tc s' T p → opO s'.1 T m (l ++ prodL y) → fT s s' m → K none s') : tT (yY L xs) (d + 1) 89 0 [.ref 1, .int (nI k), .null] [] s K := by
  have hkl := tc_lt h hk
  have hkC := kC_le y
  refine b_89_0 ⟨so_1, c_kindOf h hk ?_⟩
  rw [rt_some]
  refine b_89_5 ?_
  by_cases h1 : kC y = 2
  · rw [if_neg (by rw [h1]; exact fun q => q rfl)]
    obtain ⟨e1, -⟩ := kC_2 h1
    rw [e1] at hK hl
    have loop : ∀ q i (s1 : sT), q + i = (chl y).length → tc s1 T p → opO s1.1 T m (l ++ (chl y).take i) → fT s s1 m → tT (yY L xs) (d + 1) 89 11 [.ref 1, .int (nI k), .int (nI i)] [] s1 K := by
      intro q
      induction q with
      | zero =>
        intro i s1 hi g1 g2 g3
        refine b_89_11 ⟨so_1, c_childrenOf g1 hk ?_⟩
        rw [rt_some]
        refine b_89_17 ?_
        rw [if_pos (by rw [nJ_le (by omega) (by omega)]; omega)]
        rw [show i = (chl y).length by omega, List.take_length] at g2
        exact b_89_49 (hK s1 g1 g2 g3)
      | succ q ih =>
        intro i s1 hi g1 g2 g3
        have hi' : i < (chl y).length := by omega
        refine b_89_11 ⟨so_1, c_childrenOf g1 hk ?_⟩
        rw [rt_some]
        refine b_89_17 ?_
        rw [if_neg (by rw [nJ_le (by omega) (by omega)]; omega)]
        refine ⟨so_1, c_childOf g1 hk (List.getElem?_eq_getElem hi') (fun j hj => ?_)⟩
        rw [rt_some]
        have hb : (l ++ (chl y).take i).length ≤ l.length + i := by
          rw [List.length_append, List.length_take]
          omega
        refine b_89_27 ⟨so_1, c_push g1 g2 (by omega) hj (fun s2 q1 q2 q3 => ?_)⟩
        rw [rt_none]
        refine b_89_30 ?_
        rw [← nI_succ]
        exact ih (i + 1) s2 (by omega) q1 (by rw [List.take_succ_eq_append_getElem hi', ← List.append_assoc]; exact q2) (fT_trans g3 (fT_mono q3 (by omega)))
    exact loop _ 0 s rfl h (by rw [List.take_zero, List.append_nil]; exact ho) (fT_refl s m)
  · rw [if_pos (show ¬ nI (kC y) = 2 from fun e => h1 ((nJ_eq (by omega) (by decide)).mp e))]
    have hS := kC_n2 h1
    by_cases h0 : y = S1
    · have ek : k = 1 := (tc_eq h hk (tc_5 h 1 (by decide))).mpr h0
      rw [if_pos (show nI k = 1 by rw [ek]; rfl)]
      rw [h0, prodL_S1, List.append_nil] at hK
      exact b_89_49 (hK s h ho (fT_refl s m))
    · have ek : k ≠ 1 := fun e => h0 ((tc_eq h hk (tc_5 h 1 (by decide))).mp e)
      rw [if_neg (show ¬ nI k = 1 from fun e => ek ((nJ_eq (b := 1) (by omega) (by decide)).mp e))]
      rw [prodL_one hS h0] at hK hl
      rw [List.length_singleton] at hl
      refine ⟨so_1, c_push h ho (by omega) hk (fun s2 q1 q2 q3 => ?_)⟩
      rw [rt_none]
      exact b_89_49 (hK s2 q1 q2 (fT_mono q3 (by omega)))
end TC
