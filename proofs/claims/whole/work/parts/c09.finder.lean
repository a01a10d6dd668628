/-! THE FINDER OF TERMS: the stack behind, the rows of factors -/
def bhO (v : Nat → Nat → Int32) (T R : List Cond) : Prop := v 12 5 = nI R.length ∧ R.length ≤ 192 ∧ ∀ i c, R[i]? = some c → ∃ j, T[j]? = some c ∧ v 15 (R.length - 1 - i) = nI j
def tfO (v : Nat → Nat → Int32) (T A : List Cond) : Prop := v 12 6 = nI A.length ∧ A.length ≤ 31 ∧ A.Nodup ∧ (∀ z ∈ A, cn z) ∧ ∀ k y, A[k]? = some y → v 14 k = nI (prodL y).length ∧ (prodL y).length ≤ 64 ∧ ∀ i c, (prodL y)[i]? = some c → ∃ j, T[j]? = some c ∧ v 13 (k * 64 + i) = nI j
theorem prodL_inj {x y : Cond} (cx : cn x) (cy : cn y) : prodL x = prodL y ↔ x = y := by
  constructor
  · intro e
    rw [← mkP_prodL cx, ← mkP_prodL cy, e]
  · intro e; rw [e]
section FB
variable {L : Nat} {xs : Nat → Int32} {d : Nat} {s : sT} {K : Option Int32 → sT → Prop} {T : List Cond} {p : Nat}
/-- only the stack changes, from m on -/
def fB (s s' : sT) (m : Nat) : Prop := s'.2 = s.2 ∧ (∀ z, z ≠ 12 → z ≠ 15 → s'.1 z = s.1 z) ∧ (∀ i, i ≠ 5 → s'.1 12 i = s.1 12 i) ∧ ∀ t, t < m → s'.1 15 t = s.1 15 t
theorem fB_refl (s : sT) (m : Nat) : fB s s m := ⟨rfl, fun _ _ _ => rfl, fun _ _ => rfl, fun _ _ => rfl⟩
theorem fB_trans {s1 s2 : sT} {m : Nat} (h1 : fB s s1 m) (h2 : fB s1 s2 m) : fB s s2 m := ⟨h2.1.trans h1.1, fun z a b => (h2.2.1 z a b).trans (h1.2.1 z a b), fun i a => (h2.2.2.1 i a).trans (h1.2.2.1 i a), fun t a => (h2.2.2.2 t a).trans (h1.2.2.2 t a)⟩
theorem fB_mono {s1 : sT} {m n : Nat} (h : fB s s1 n) (hm : m ≤ n) : fB s s1 m := ⟨h.1, h.2.1, h.2.2.1, fun t a => h.2.2.2 t (by omega)⟩
theorem tc_fB {s1 : sT} {m : Nat} (h : tc s T p) (hf : fB s s1 m) : tc s1 T p := tc_off h hf.1 (by rw [hf.2.1 1 (by decide) (by decide)]) (by rw [hf.2.1 1 (by decide) (by decide)]) (fun z _ _ => hf.2.1 z (by omega) (by omega))
theorem tfO_off {v v' : Nat → Nat → Int32} {A : List Cond} (h : tfO v T A) (h6 : v' 12 6 = v 12 6) (h13 : v' 13 = v 13) (h14 : v' 14 = v 14) : tfO v' T A := by
  unfold tfO at h ⊢
  rw [h6, h13, h14]; exact h
theorem c_fpush {j : Nat} {R : List Cond} {c : Cond} (hP : rP s.2) (hb : bhO s.1 T R) (hl : R.length < 192) (hj : T[j]? = some c) (hK : ∀ s', bhO s'.1 T (c :: R) → fB s s' R.length → K none s') : tT (yY L xs) d 67 0 [.ref 12, .int (nI j)] [] s K := by
  refine b_67_0 ⟨so_12, ?_⟩
  rw [hb.1, if_neg (by rw [nI_lit 192, nJ_le (by omega) (by omega)]; omega), nI_cl (by omega)]
  refine ⟨15, ⟨so_12, rp_12_3 hP⟩, so_12, 192, ⟨sa_15, inR_nI hl (by decide)⟩, so_12, so_12, ?_⟩
  rw [pV_1, if_neg (by omega), hb.1, ← nI_succ]
  refine hK _ ⟨by rw [pV_1, if_pos ⟨rfl, rfl⟩]; rfl, by rw [List.length_cons]; omega, fun i c' hc' => ?_⟩ ⟨rfl, fun z a b => ?_, fun i a => ?_, fun t a => ?_⟩
  · rw [pV_1, if_neg (by omega), pV_1, List.length_cons]
    cases i with
    | zero =>
      cases hc'
      exact ⟨j, hj, by rw [if_pos ⟨rfl, by omega⟩]⟩
    | succ i =>
      have hi := (List.getElem?_eq_some_iff.mp hc').1
      rw [List.length_cons] at hi
      obtain ⟨j', j1, j2⟩ := hb.2.2 i c' hc'
      refine ⟨j', j1, ?_⟩
      rw [if_neg (by omega), show R.length + 1 - 1 - (i + 1) = R.length - 1 - i by omega]
      exact j2
  · funext u; rw [pV_1, if_neg (by omega), pV_1, if_neg (by omega)]
  · rw [pV_1, if_neg (by omega), pV_1, if_neg (by omega)]
  · rw [pV_1, if_neg (by omega), pV_1, if_neg (by omega)]
theorem c_pushFactors {k : Nat} {R : List Cond} {y : Cond} (h : tc s T p) (hb : bhO s.1 T R) (hl : R.length + (prodL y).length ≤ 192) (hk : T[k]? = some y) (hK : ∀ s', bhO s'.1 T (prodL y ++ R) → fB s s' R.length → K none s') : tT (yY L xs) (d + 1) 66 0 [.ref 12, .int (nI k), .null] [] s K := by
  have hP := h.1
  have hkl := tc_lt h hk
  have hkC := kC_le y
  refine b_66_0 ⟨1, ⟨so_12, rp_12_0 hP⟩, so_1, c_kindOf h hk ?_⟩
  rw [rt_some]
  refine b_66_8 ?_
  by_cases h2 : kC y = 2
  · rw [if_neg (by rw [h2]; exact fun q => q rfl)]
    obtain ⟨e1, -⟩ := kC_2 h2
    rw [e1] at hK hl
    refine ⟨1, ⟨so_12, rp_12_0 hP⟩, so_1, c_childrenOf h hk ?_⟩
    rw [rt_some]
    have done : ∀ (s1 : sT) (x2 : Int32), x2 < 0 → bhO s1.1 T (chl y ++ R) → fB s s1 R.length → tT (yY L xs) (d + 1) 66 23 [.ref 12, .int (nI k), .int x2] [] s1 K := by
      intro s1 x2 hx g1 g2
      refine b_66_23 ?_
      rw [if_pos hx]
      exact b_66_59 (hK s1 g1 g2)
    have loop : ∀ i (s1 : sT), i < (chl y).length → bhO s1.1 T ((chl y).drop (i + 1) ++ R) → fB s s1 R.length → tT (yY L xs) (d + 1) 66 23 [.ref 12, .int (nI k), .int (nI i)] [] s1 K := by
      intro i
      induction i with
      | zero =>
        intro s1 hi g1 g2
        have ed := List.drop_eq_getElem_cons (l := chl y) (i := 0) hi
        rw [List.drop_zero] at ed
        have hld : ((chl y).drop (0 + 1) ++ R).length = (chl y).length - 1 + R.length := by rw [List.length_append, List.length_drop]
        refine b_66_23 ?_
        rw [if_neg (show ¬ nI 0 < 0 by decide)]
        refine ⟨1, ⟨so_12, rp_12_0 (by rw [g2.1]; exact hP)⟩, so_1, c_childOf (tc_fB h g2) hk (List.getElem?_eq_getElem hi) (fun j hj => ?_)⟩
        rw [rt_some]
        refine b_66_37 ⟨so_12, c_fpush (by rw [g2.1]; exact hP) g1 (by omega) hj (fun s2 q1 q2 => ?_)⟩
        rw [rt_none]
        refine b_66_40 (done s2 _ (by decide) ?_ (fB_trans g2 (fB_mono q2 (by omega))))
        rw [ed]; exact q1
      | succ i ih =>
        intro s1 hi g1 g2
        have ed := List.drop_eq_getElem_cons (l := chl y) (i := i + 1) hi
        have hld : ((chl y).drop (i + 1 + 1) ++ R).length = (chl y).length - (i + 1 + 1) + R.length := by rw [List.length_append, List.length_drop]
        refine b_66_23 ?_
        rw [if_neg (nI_nn (by omega))]
        refine ⟨1, ⟨so_12, rp_12_0 (by rw [g2.1]; exact hP)⟩, so_1, c_childOf (tc_fB h g2) hk (List.getElem?_eq_getElem hi) (fun j hj => ?_)⟩
        rw [rt_some]
        refine b_66_37 ⟨so_12, c_fpush (by rw [g2.1]; exact hP) g1 (by omega) hj (fun s2 q1 q2 => ?_)⟩
        rw [rt_none]
        refine b_66_40 ?_
        rw [nI_dec]
        exact ih s2 (by omega) (by rw [ed]; exact q1) (fB_trans g2 (fB_mono q2 (by omega)))
    refine b_66_20 ?_
    cases hc : chl y with
    | nil =>
      rw [hc] at done
      exact done s _ (by decide) hb (fB_refl s _)
    | cons c l =>
      rw [hc] at loop
      have := loop l.length s (by rw [List.length_cons]; omega) (by rw [List.drop_eq_nil_of_le (by rw [List.length_cons]; omega)]; exact hb) (fB_refl s _)
      rw [List.length_cons, nI_pred]
      exact this
  · rw [if_pos (show ¬ nI (kC y) = 2 from fun e => h2 ((nJ_eq (by omega) (by decide)).mp e))]
    have hS := kC_n2 h2
    by_cases h0 : y = S1
    · have ek : k = 1 := (tc_eq h hk (tc_5 h 1 (by decide))).mpr h0
      rw [if_pos (show nI k = 1 by rw [ek]; rfl)]
      rw [h0, prodL_S1] at hK
      exact b_66_59 (hK s hb (fB_refl s _))
    · have ek : k ≠ 1 := fun e => h0 ((tc_eq h hk (tc_5 h 1 (by decide))).mp e)
      rw [if_neg (show ¬ nI k = 1 from fun e => ek ((nJ_eq (b := 1) (by omega) (by decide)).mp e))]
      rw [prodL_one hS h0] at hK hl
      rw [List.length_singleton] at hl
      refine ⟨so_12, c_fpush hP hb (by omega) hk (fun s2 q1 q2 => ?_)⟩
      rw [rt_none]
      exact b_66_59 (hK s2 q1 q2)
theorem c_isBehind {k : Nat} {A R : List Cond} {y : Cond} (h : tc s T p) (hb : bhO s.1 T R) (ht : tfO s.1 T A) (hk : A[k]? = some y) (h1 : prodL y = R → K (some 1) s) (h0 : prodL y ≠ R → K (some 0) s) : tT (yY L xs) d 69 0 [.ref 12, .int (nI k), .null] [] s K := by
  have hP := h.1
  have hkA := (List.getElem?_eq_some_iff.mp hk).1
  have hA := ht.2.1
  obtain ⟨n1, n2, n3⟩ := ht.2.2.2.2 k y hk
  have hR := hb.2.1
  refine b_69_0 ⟨14, ⟨so_12, rp_12_2 hP⟩, 31, ⟨sa_14, inR_nI (by omega) (by decide)⟩, so_12, ?_⟩
  rw [nI_cl (by omega), n1, hb.1]
  by_cases hlen : (prodL y).length = R.length
  · rw [if_pos (by rw [hlen])]
    have loop : ∀ q i, q + i = R.length → (∀ t, t < i → (prodL y)[t]? = R[t]?) → tT (yY L xs) d 69 17 [.ref 12, .int (nI k), .int (nI i)] [] s K := by
      intro q
      induction q with
      | zero =>
        intro i hi hn
        refine b_69_17 ⟨so_12, ?_⟩
        rw [hb.1, if_pos (by rw [nJ_le (by omega) (by omega)]; omega)]
        refine h1 (List.ext_getElem? (fun t => ?_))
        by_cases ht : t < R.length
        · exact hn t (by omega)
        · rw [List.getElem?_eq_none (by omega), List.getElem?_eq_none (by omega)]
      | succ q ih =>
        intro i hi hn
        have hi' : i < R.length := by omega
        have hi2 : i < (prodL y).length := by omega
        obtain ⟨j, j1, j2⟩ := n3 i _ (List.getElem?_eq_getElem hi2)
        obtain ⟨j', g1, g2⟩ := hb.2.2 i _ (List.getElem?_eq_getElem hi')
        have hjl := tc_lt h j1
        have hjl' := tc_lt h g1
        refine b_69_17 ⟨so_12, ?_⟩
        rw [hb.1, if_neg (by rw [nJ_le (by omega) (by omega)]; omega)]
        refine ⟨13, ⟨so_12, rp_12_1 hP⟩, 1984, ?_⟩
        rw [nI_lit 64, nI_lit 1, nJ_mul, nJ_add, nJ_sub (by omega), nJ_sub (by omega), nI_cl (show k * 64 + i < 2147483648 by omega), nI_cl (show R.length - 1 - i < 2147483648 by omega), j2]
        refine ⟨⟨sa_13, inR_nI (by omega) (by decide)⟩, 15, ⟨so_12, rp_12_3 hP⟩, so_12, 192, ⟨sa_15, inR_nI (by omega) (by decide)⟩, ?_⟩
        rw [g2]
        by_cases e : (prodL y)[i] = R[i]
        · rw [if_pos (by rw [(tc_eq h j1 g1).mpr e]), nJ_add]
          exact ih (i + 1) (by omega) (fun t ht => by
            by_cases et : t = i
            · subst et
              rw [List.getElem?_eq_getElem hi2, List.getElem?_eq_getElem hi', e]
            · exact hn t (by omega))
        · rw [if_neg (by rw [nJ_eq (by omega) (by omega)]; exact fun q => e ((tc_eq h j1 g1).mp q))]
          exact h0 (fun q => e (by
            have := congrArg (fun w => w[i]?) q
            simp only [List.getElem?_eq_getElem hi2, List.getElem?_eq_getElem hi'] at this
            exact Option.some.inj this))
    exact loop R.length 0 (by omega) (fun t ht => absurd ht (Nat.not_lt_zero _))
  · rw [if_neg (by rw [nJ_eq (by omega) (by omega)]; exact hlen)]
    exact h0 (fun q => hlen (by rw [q]))
/-- frame of a new term -/
def fM (s s' : sT) : Prop := s'.2 = s.2 ∧ (∀ z, z ≠ 12 → z ≠ 13 → z ≠ 14 → s'.1 z = s.1 z) ∧ ∀ i, i ≠ 6 → s'.1 12 i = s.1 12 i
theorem fM_refl (s : sT) : fM s s := ⟨rfl, fun _ _ _ _ => rfl, fun _ _ => rfl⟩
theorem c_numberOfTerm {A R : List Cond} {z : Cond} (h : tc s T p) (hb : bhO s.1 T R) (ht : tfO s.1 T A) (hR : prodL z = R) (cz : cn z) (h31 : z ∉ A → A.length < 31) (h64 : R.length ≤ 64) (hK : ∀ s', tfO s'.1 T (ddp A [z]) → fM s s' → K (some (nI ((ddp A [z]).idxOf z))) s') : tT (yY L xs) (d + 1) 68 0 [.ref 12, .null, .null] [] s K := by
  have hP := h.1
  obtain ⟨a1, a2, a3, a4, a5⟩ := ht
  have ht : tfO s.1 T A := ⟨a1, a2, a3, a4, a5⟩
  rw [ddp_one] at hK
  have loop : ∀ q k, q + k = A.length → (∀ t, t < k → A[t]? ≠ some z) → tT (yY L xs) (d + 1) 68 2 [.ref 12, .int (nI k), .null] [] s K := by
    intro q
    induction q with
    | zero =>
      intro k hk hn
      have hz : z ∉ A := fun hc => by
        obtain ⟨t, ht⟩ := List.getElem?_of_mem hc
        have := (List.getElem?_eq_some_iff.mp ht).1
        exact hn t (by omega) ht
      have hA31 := h31 hz
      rw [if_neg hz, idx_new hz] at hK
      refine b_68_2 ⟨so_12, ?_⟩
      rw [a1, if_pos (by rw [nJ_le (by omega) (by omega)]; omega)]
      refine ⟨so_12, ?_⟩
      rw [if_neg (by rw [nI_lit 31, nJ_le (by omega) (by omega)]; omega)]
      refine ⟨so_12, ?_⟩
      rw [hb.1, if_pos (by rw [nI_lit 64, nJ_le (by omega) (by omega)]; omega)]
      refine ⟨so_12, so_12, so_12, 14, ⟨so_12, rp_12_2 hP⟩, so_12, 31, ⟨sa_14, inR_nI hA31 (by decide)⟩, ?_⟩
      rw [nI_cl (by omega), pV_1, if_neg (by omega), hb.1, ← nI_succ]
      generalize hs0 : pV (pV s 12 6 (nI (A.length + 1))) 14 A.length (nI R.length) = s0
      have r0 : ∀ z t, s0.1 z t = if z = 14 ∧ t = A.length then nI R.length else if z = 12 ∧ t = 6 then nI (A.length + 1) else s.1 z t := fun z t => by rw [← hs0, pV_1, pV_1]
      have copy : ∀ q i (s1 : sT), q + i = R.length → s1.2 = s.2 → (∀ z, z ≠ 13 → s1.1 z = s0.1 z) → (∀ t, (t < A.length * 64 ∨ A.length * 64 + i ≤ t) → s1.1 13 t = s.1 13 t) → (∀ t c, t < i → R[t]? = some c → ∃ j, T[j]? = some c ∧ s1.1 13 (A.length * 64 + t) = nI j) → tT (yY L xs) (d + 1) 68 73 [.ref 12, .int (nI A.length), .int (nI i)] [] s1 K := by
        intro q
        induction q with
        | zero =>
          intro i s1 hi g1 g2 g3 g4
          have e5 : s1.1 12 5 = nI R.length := by rw [g2 12 (by decide), r0 12 5, if_neg (by omega), if_neg (by omega)]; exact hb.1
          refine b_68_73 ⟨so_12, ?_⟩
          rw [e5, if_pos (by rw [nJ_le (by omega) (by omega)]; omega)]
          refine hK s1 ⟨?_, by rw [List.length_append, List.length_singleton]; omega, ?_, ?_, fun k' y hk' => ?_⟩ ⟨g1, fun z h1 h2 h3 => ?_, fun i hi => ?_⟩
          · rw [g2 12 (by decide), r0, if_neg (by omega), if_pos ⟨rfl, rfl⟩, List.length_append, List.length_singleton]
          · refine List.nodup_append.mpr ⟨a3, nd_one _, fun a ha b hb e => ?_⟩
            rw [List.mem_singleton.mp hb] at e
            exact hz (e ▸ ha)
          · intro w hw
            rcases List.mem_append.mp hw with q | q
            · exact a4 w q
            · rw [List.mem_singleton.mp q]; exact cz
          · by_cases hkA : k' < A.length
            · rw [List.getElem?_append_left hkA] at hk'
              obtain ⟨b1, b2, b3⟩ := a5 k' y hk'
              refine ⟨by rw [g2 14 (by decide), r0, if_neg (by omega), if_neg (by omega)]; exact b1, b2, fun i c hc => ?_⟩
              have hil := (List.getElem?_eq_some_iff.mp hc).1
              obtain ⟨j, j1, j2⟩ := b3 i c hc
              exact ⟨j, j1, by rw [g3 _ (by omega)]; exact j2⟩
            · have hi2 := (List.getElem?_eq_some_iff.mp hk').1
              rw [List.length_append, List.length_singleton] at hi2
              have ek : k' = A.length := by omega
              subst ek
              rw [List.getElem?_append_right (Nat.le_refl _), Nat.sub_self] at hk'
              cases hk'
              rw [hR]
              refine ⟨by rw [g2 14 (by decide), r0, if_pos ⟨rfl, rfl⟩], h64, fun i c hc => ?_⟩
              exact g4 i c (by have := (List.getElem?_eq_some_iff.mp hc).1; omega) hc
          · funext t
            rw [g2 z h2, r0, if_neg (by omega), if_neg (by omega)]
          · rw [g2 12 (by decide), r0, if_neg (by omega), if_neg (by omega)]
        | succ q ih =>
          intro i s1 hi g1 g2 g3 g4
          have hi' : i < R.length := by omega
          obtain ⟨j, j1, j2⟩ := hb.2.2 i _ (List.getElem?_eq_getElem hi')
          have e5 : s1.1 12 5 = nI R.length := by rw [g2 12 (by decide), r0 12 5, if_neg (by omega), if_neg (by omega)]; exact hb.1
          have e15 : s1.1 15 (R.length - 1 - i) = nI j := by rw [g2 15 (by decide), r0, if_neg (by omega), if_neg (by omega)]; exact j2
          have hP1 : rP s1.2 := by rw [g1]; exact hP
          refine b_68_73 ⟨so_12, ?_⟩
          rw [e5, if_neg (by rw [nJ_le (by omega) (by omega)]; omega)]
          refine ⟨13, ⟨so_12, rp_12_1 hP1⟩, 15, ⟨so_12, rp_12_3 hP1⟩, so_12, 192, ?_⟩
          rw [nI_lit 64, nI_lit 1, nJ_mul, nJ_add, nJ_sub (by omega), nJ_sub (by omega), nI_cl (show A.length * 64 + i < 2147483648 by omega), nI_cl (show R.length - 1 - i < 2147483648 by omega), e15, nJ_add]
          refine ⟨⟨sa_15, inR_nI (by omega) (by decide)⟩, 1984, ⟨sa_13, inR_nI (by omega) (by decide)⟩, ?_⟩
          refine ih (i + 1) _ (by omega) g1 (fun z hz => by rw [← g2 z hz]; funext t; rw [pV_1, if_neg (by omega)]) (fun t ht => by rw [pV_1, if_neg (by omega)]; exact g3 t (by omega)) (fun t c ht hct => ?_)
          rw [pV_1]
          by_cases et : t = i
          · subst et
            rw [List.getElem?_eq_getElem hi'] at hct
            cases hct
            exact ⟨j, j1, by rw [if_pos ⟨rfl, rfl⟩]⟩
          · rw [if_neg (by omega)]
            exact g4 t c (by omega) hct
      exact copy R.length 0 s0 (by omega) (by rw [← hs0]; rfl) (fun _ _ => rfl) (fun t _ => by rw [r0, if_neg (by omega), if_neg (by omega)]) (fun t c ht => absurd ht (Nat.not_lt_zero _))
    | succ q ih =>
      intro k hk hn
      have hk' : k < A.length := by omega
      have hy := List.getElem?_eq_getElem hk'
      generalize A[k] = y at hy
      have cy := a4 y (List.mem_of_getElem? hy)
      refine b_68_2 ⟨so_12, ?_⟩
      rw [a1, if_neg (by rw [nJ_le (by omega) (by omega)]; omega)]
      refine ⟨so_12, c_isBehind h hb ht hy (fun e => ?_) (fun e => ?_)⟩
      · rw [rt_some]
        refine b_68_15 ?_
        rw [if_neg (by decide)]
        have ey : y = z := (prodL_inj cy cz).mp (by rw [e, hR])
        subst ey
        have hm := List.mem_of_getElem? hy
        rw [if_pos hm, idx_at a3 hy] at hK
        exact hK s ht (fM_refl s)
      · rw [rt_some]
        refine b_68_15 ?_
        rw [if_pos rfl, ← nI_succ]
        exact ih (k + 1) (by omega) (fun t ht => by
          by_cases et : t = k
          · subst et
            rw [hy]
            intro q
            cases q
            exact e hR
          · exact hn t (by omega))
  exact b_68_0 (loop A.length 0 (by omega) (fun t ht => absurd ht (Nat.not_lt_zero _)))
end FB
