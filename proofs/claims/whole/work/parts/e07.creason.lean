/-! REASONS, by the class -/
theorem now_side2 {L : Nat} {xs : Nat → Int32} {s : sT} {R : rmT} {I : Nat → Option rmT} {σ : Nat} {X : Cond} (hC : simC s R I) (hσ : σ < 2) (e : sideOf R σ = sdOf X) (cX : cn X) (zX : z0 X ≤ 30) : ∃ c, s.2 64 σ = some c ∧ sdX L xs s c X ∧ (c = 65 ∨ c = 74) := by
  have hP := hC.1
  obtain ⟨-, ⟨c0, c1, hcs, hrm⟩, -⟩ := hC
  obtain ⟨c, hc1, hc2, hc3⟩ := cSides_at hcs hσ
  refine ⟨c, hc1, ⟨?_, ?_, cX, zX⟩, hc2⟩
  · rcases hc2 with rfl | rfl
    · exact sk_65 hP
    · exact sk_74 hP
  · have := rmC_side hrm σ
    rw [← hc3, e] at this
    exact this
/-- what the kernel looks at -/
def kQ (L : Nat) (xs : Nat → Int32) (s : sT) (c0 c1 : Nat) (X0 X1 : Cond) (N : lnT) : Prop := rP s.2 ∧ (s.2 55 0 = some c0 ∧ s.2 55 1 = some c1 ∧ s.2 55 2 = some 84) ∧ (sdX L xs s c0 X0 ∧ (c0 = 65 ∨ c0 = 74)) ∧ (sdX L xs s c1 X1 ∧ (c1 = 65 ∨ c1 = 74)) ∧ lnC s.1 84 N ∧ lnB N
/-- only the kernel's numbers change -/
def f5 (s s' : sT) : Prop := s'.2 = s.2 ∧ ∀ z, z ≠ 55 → s'.1 z = s.1 z
theorem f5_refl (s : sT) : f5 s s := ⟨rfl, fun _ _ => rfl⟩
theorem f5_trans {s s1 s2 : sT} (h1 : f5 s s1) (h2 : f5 s1 s2) : f5 s s2 := ⟨h2.1.trans h1.1, fun z a => (h2.2 z a).trans (h1.2 z a)⟩
theorem f5_put {s s1 : sT} {k : Nat} {v : Int32} (h : f5 s s1) : f5 s (pV s1 55 k v) := ⟨h.1, fun z a => (funext fun j => by rw [pV_1, if_neg (fun q => a q.1)]).trans (h.2 z a)⟩
theorem sdX_f5 {L : Nat} {xs : Nat → Int32} {s s' : sT} {c : Nat} {X : Cond} (h : sdX L xs s c X) (hc : c = 65 ∨ c = 74) (f : f5 s s') : sdX L xs s' c X := ⟨by rw [f.1]; exact h.1, sdC_off h.2.1 (fun i a b => f.2 i (by omega)), h.2.2⟩
theorem kQ_f5 {L : Nat} {xs : Nat → Int32} {s s' : sT} {c0 c1 : Nat} {X0 X1 : Cond} {N : lnT} (h : kQ L xs s c0 c1 X0 X1 N) (f : f5 s s') : kQ L xs s' c0 c1 X0 X1 N := by
  obtain ⟨h1, h2, h3, h4, h5, h6⟩ := h
  exact ⟨by rw [f.1]; exact h1, by rw [f.1]; exact h2, ⟨sdX_f5 h3.1 h3.2 f, h3.2⟩, ⟨sdX_f5 h4.1 h4.2 f, h4.2⟩, lnC_off h5 (fun i a b => f.2 i (by omega)), h6⟩
theorem ptsL_at (T : List Cond) : ∀ {n b q : Nat} {z : Cond}, b < n → (rowP T b)[q]? = some z → (ptsL T n)[psum (lenR T) b + q]? = some (nI (T.idxOf z))
  | 0, b, q, z, hb, hq => absurd hb (Nat.not_lt_zero _)
  | n + 1, b, q, z, hb, hq => by
    have hql := (List.getElem?_eq_some_iff.mp hq).1
    show (ptsL T n ++ (rowP T n).map fun z => nI (T.idxOf z))[psum (lenR T) b + q]? = _
    by_cases e : b = n
    · subst e
      rw [List.getElem?_append_right (by rw [ptsL_len]; omega), ptsL_len, Nat.add_sub_cancel_left, List.getElem?_map, hq]; rfl
    · have h1 := psum_in (f := lenR T) (show b < n by omega)
      have h2 : lenR T b = (rowP T b).length := rfl
      rw [List.getElem?_append_left (by rw [ptsL_len]; omega)]
      exact ptsL_at T (by omega) hq
section CR
variable {L : Nat} {xs : Nat → Int32} {d : Nat} {s : sT} {K : Option Int32 → sT → Prop} {X X0 X1 : Cond} {N : lnT} {c c0 c1 : Nat}
theorem c_isSet {S : Int32} (h : sdX L xs s c X) (hK : K (some (bz (setB (tms X).length S))) s) : tT (yY L xs) d 46 0 [.ref c, .int S] [] s K := by
  refine b_46_0 ⟨h.1.1, ?_⟩
  rw [sdX_6 h]
  by_cases e : S &&& (((1 <<< (nI (tms X).length &&& 31)) - 1) ^^^ -1) = 0
  · rw [if_neg (fun q => q e)]
    rw [show setB (tms X).length S = true from decide_eq_true e] at hK
    exact hK
  · rw [if_pos e]
    rw [show setB (tms X).length S = false from decide_eq_false e] at hK
    exact hK
theorem row_at {T : List Cond} {t x : Nat} {y : Cond} (hy : T[t]? = some y) (hx : x < 3) : rowP T (3 * t + x) = pt y x := by
  unfold rowP
  rw [show (3 * t + x) / 3 = t by omega, show (3 * t + x) % 3 = x by omega, List.getD_eq_getElem?_getD, hy]; rfl
theorem c_partsOf {t x : Nat} {y : Cond} (h : sdX L xs s c X) (hy : (tms X)[t]? = some y) (hx : x < 3) (hK : K (some (nI (pt y x).length)) s) : tT (yY L xs) (d + 1) 52 0 [.ref c, .int (nI t), .int (nI x), .null] [] s K := by
  have h31 := sdX_31 h
  have htl := (List.getElem?_eq_some_iff.mp hy).1
  refine b_52_0 ⟨h.1.1, c_isTerm h (fun _ _ _ => ?_) (fun q => ?_)⟩
  · rw [rt_some]
    refine b_52_5 ?_
    rw [if_neg (by decide)]
    refine b_56_0 ?_
    rw [if_neg (nI_nn (by omega)), if_neg (by rw [nI_lit 3, nJ_le (by omega) (by omega)]; omega), rt_some]
    refine b_52_12 ?_
    rw [if_pos (by decide)]
    have g1 : s.1 (c + 7) (3 * t + x) = nI (psum (lenR (tms X)) (3 * t + x)) := h.2.1.2.2.2.2.2.1 (3 * t + x) (show 3 * t + x ≤ 3 * (tms X).length by omega)
    have g2 : s.1 (c + 7) (3 * t + x + 1) = nI (psum (lenR (tms X)) (3 * t + x + 1)) := h.2.1.2.2.2.2.2.1 (3 * t + x + 1) (show 3 * t + x + 1 ≤ 3 * (tms X).length by omega)
    have g3 : psum (lenR (tms X)) (3 * t + x + 1) = psum (lenR (tms X)) (3 * t + x) + (pt y x).length := by
      show psum (lenR (tms X)) (3 * t + x) + (rowP (tms X) (3 * t + x)).length = _
      rw [row_at hy hx]
    refine ⟨c + 7, ⟨h.1.1, h.1.2.1.2.2.2.2.1⟩, 94, ?_⟩
    rw [nI_lit 3, nJ_mul, nJ_add, nI_lit 1, nJ_add, Nat.mul_comm t 3]
    refine ⟨⟨h.1.2.2.2.2.2.2.1, inR_nI (by omega) (by decide)⟩, c + 7, ⟨h.1.1, h.1.2.1.2.2.2.2.1⟩, 94, ⟨h.1.2.2.2.2.2.2.1, inR_nI (by omega) (by decide)⟩, ?_⟩
    rw [nI_cl (show 3 * t + x + 1 < 2147483648 by omega), nI_cl (show 3 * t + x < 2147483648 by omega), g1, g2, g3, nJ_sub (by omega), Nat.add_sub_cancel_left]
    exact hK
  · rcases q with q | q
    · exact absurd q (nI_nn (by omega))
    · rw [nJ_le (by omega) (by omega)] at q; omega
theorem c_partOf {t x k : Nat} {y : Cond} (h : sdX L xs s c X) (hy : (tms X)[t]? = some y) (hx : x < 3) (hk : k < (pt y x).length) (hK : K (some (prI (tms X) y x k)) s) : tT (yY L xs) (d + 2) 53 0 [.ref c, .int (nI t), .int (nI x), .int (nI k)] [] s K := by
  have h31 := sdX_31 h
  have htl := (List.getElem?_eq_some_iff.mp hy).1
  have hlen := tms_pt h.2.2.1 h.2.2.2 (List.mem_of_getElem? hy) hx
  refine b_53_0 ?_
  rw [if_neg (nI_nn (by omega))]
  refine ⟨h.1.1, c_partsOf h hy hx ?_⟩
  refine b_53_11 ?_
  rw [if_neg (by rw [nJ_le (by omega) (by omega)]; omega)]
  have g1 : s.1 (c + 7) (3 * t + x) = nI (psum (lenR (tms X)) (3 * t + x)) := h.2.1.2.2.2.2.2.1 (3 * t + x) (show 3 * t + x ≤ 3 * (tms X).length by omega)
  have hcap : psum (lenR (tms X)) (3 * (tms X).length) ≤ 961 := (gD_sdB _ ⟨X, h.2.2.1, h.2.2.2, rfl⟩).2.2.2.2
  have hin := psum_in (f := lenR (tms X)) (show 3 * t + x < 3 * (tms X).length by omega)
  have hlr : lenR (tms X) (3 * t + x) = (pt y x).length := by unfold lenR; rw [row_at hy hx]
  have hz := List.getElem?_eq_getElem hk
  generalize (pt y x)[k] = z at hz
  have e8 : s.1 (c + 8) (psum (lenR (tms X)) (3 * t + x) + k) = prI (tms X) y x k := by
    rw [show s.1 (c + 8) (psum (lenR (tms X)) (3 * t + x) + k) = (ptsL (tms X) (3 * (tms X).length)).getD (psum (lenR (tms X)) (3 * t + x) + k) 0 from h.2.1.2.2.2.2.2.2 _ (show _ < psum (lenR (tms X)) (3 * (tms X).length) by omega), List.getD_eq_getElem?_getD, ptsL_at (tms X) (show 3 * t + x < 3 * (tms X).length by omega) (by rw [row_at hy hx]; exact hz)]
    unfold prI
    rw [List.getD_eq_getElem?_getD, hz]; rfl
  refine ⟨c + 8, ⟨h.1.1, h.1.2.1.2.2.2.2.2⟩, c + 7, ⟨h.1.1, h.1.2.1.2.2.2.2.1⟩, 94, ?_⟩
  rw [nI_lit 3, nJ_mul, nJ_add, Nat.mul_comm t 3, nI_cl (show 3 * t + x < 2147483648 by omega), g1, nJ_add, nI_cl (show psum (lenR (tms X)) (3 * t + x) + k < 2147483648 by omega), e8]
  exact ⟨⟨h.1.2.2.2.2.2.2.1, inR_nI (by omega) (by decide)⟩, 961, ⟨h.1.2.2.2.2.2.2.2, inR_nI (by omega) (by decide)⟩, hK⟩
theorem c_premiseOf {i j : Nat} (hP : rP s.2) (hN : lnC s.1 84 N) (hB : lnB N) (hi : i < N.1.1) (hj : j < N.2.1 i) (hK : K (some (N.2.2.1 i j)) s) : tT (yY L xs) (d + 1) 12 0 [.ref 84, .int (nI i), .int (nI j)] [] s K := by
  obtain ⟨⟨l1, l2, l3⟩, l4, l5, l6, l7, l8, l9, l10, l11⟩ := hN
  obtain ⟨b1, b2, b3⟩ := hB
  have htot := psum_le (f := N.2.1) N.1.1 b2
  have hin := psum_in (f := N.2.1) hi
  have hb := b2 i hi
  refine b_12_0 ⟨so_84, c_isLine so_84 l1 (by omega) (fun _ _ _ => ?_) (fun q => ?_)⟩
  · rw [rt_some]
    refine b_12_5 ?_
    rw [if_neg (by decide), if_neg (nI_nn (by omega))]
    refine ⟨89, ⟨so_84, rp_84_4 hP⟩, 300, ⟨sa_89, inR_nI (by omega) (by decide)⟩, ?_⟩
    rw [nI_cl (show i < 2147483648 by omega), l7 i hi, if_neg (by rw [nJ_le (by omega) (by omega)]; omega)]
    refine ⟨90, ⟨so_84, rp_84_5 hP⟩, 88, ⟨so_84, rp_84_3 hP⟩, 300, ⟨sa_88, inR_nI (by omega) (by decide)⟩, 9300, ?_⟩
    rw [l8 i hi (by omega), nJ_add, nI_cl (show psum N.2.1 i + j < 2147483648 by omega), l9 i hi j hj]
    exact ⟨⟨sa_90, inR_nI (by omega) (by decide)⟩, hK⟩
  · rcases q with q | q
    · exact absurd q (nI_nn (by omega))
    · rw [nJ_le (by omega) (by omega)] at q; omega
theorem c_hasPremise {i : Nat} {g S : Int32} (h : kQ L xs s c0 c1 X0 X1 N) (hi : i < N.1.1) (hp : ∀ j, j < N.2.1 i → ∃ k, N.2.2.1 i j = nI k ∧ k < N.1.1) (hK : K (some (bz (hasP N i g S))) s) : tT (yY L xs) (d + 2) 7 0 [.ref 55, .int (nI i), .int g, .int S, .null, .null] [] s K := by
  obtain ⟨hP, ⟨r0, r1, r2⟩, -, -, hN, hB⟩ := h
  have l := hN
  obtain ⟨⟨l1, l2, l3⟩, l4, l5, l6, l7, l8, l9, l10, l11⟩ := l
  obtain ⟨b1, b2, b3⟩ := id hB
  have hb := b2 i hi
  have loop : ∀ q k u, q + k = N.2.1 i → K (some (bz (ff (prv N i g S) q k).isSome)) s → tT (yY L xs) (d + 2) 7 3 [.ref 55, .int (nI i), .int g, .int S, .int (nI k), u] [] s K := by
    intro q
    induction q with
    | zero =>
      intro k u hk hK
      refine b_7_3 ⟨84, ⟨so_55, r2⟩, 89, ⟨so_84, rp_84_4 hP⟩, 300, ⟨sa_89, inR_nI (by omega) (by decide)⟩, ?_⟩
      rw [nI_cl (show i < 2147483648 by omega), l7 i hi, if_pos (by rw [nJ_le (by omega) (by omega)]; omega)]
      exact hK
    | succ q ih =>
      intro k u hk hK
      obtain ⟨p, ep, hpl⟩ := hp k (by omega)
      refine b_7_3 ⟨84, ⟨so_55, r2⟩, 89, ⟨so_84, rp_84_4 hP⟩, 300, ⟨sa_89, inR_nI (by omega) (by decide)⟩, ?_⟩
      rw [nI_cl (show i < 2147483648 by omega), l7 i hi, if_neg (by rw [nJ_le (by omega) (by omega)]; omega)]
      refine ⟨84, ⟨so_55, r2⟩, so_84, c_premiseOf hP hN hB hi (by omega) ?_⟩
      rw [rt_some, ep]
      refine b_7_27 ⟨84, ⟨so_55, r2⟩, so_84, c_isLine so_84 l1 (by omega) (fun _ _ _ => ?_) (fun q => ?_)⟩
      · rw [rt_some]
        refine b_7_38 ?_
        rw [if_neg (by decide)]
        rw [ff_s] at hK
        have epr : prv N i g S k = decide (N.1.2.1 p = g ∧ N.1.2.2.1 p &&& (S ^^^ -1) = 0) := by unfold prv; rw [ep, nI_cl (by omega)]
        have nxt : prv N i g S k = false → tT (yY L xs) (d + 2) 7 74 [.ref 55, .int (nI i), .int g, .int S, .int (nI k), .int (nI p)] [] s K := fun e => by
          rw [e, if_neg (by decide)] at hK
          refine b_7_74 ?_
          rw [← nI_succ k]
          exact ih (k + 1) _ (by omega) hK
        refine ⟨84, ⟨so_55, r2⟩, 85, ⟨so_84, rp_84_0 hP⟩, 300, ⟨sa_85, inR_nI (by omega) (by decide)⟩, ?_⟩
        rw [nI_cl (show p < 2147483648 by omega), l4 p hpl]
        by_cases e1 : N.1.2.1 p = g
        · rw [if_neg (fun q => q e1)]
          refine ⟨84, ⟨so_55, r2⟩, 86, ⟨so_84, rp_84_1 hP⟩, 300, ⟨sa_86, inR_nI (by omega) (by decide)⟩, ?_⟩
          rw [l5 p hpl]
          by_cases e2 : N.1.2.2.1 p &&& (S ^^^ -1) = 0
          · rw [if_neg (fun q => q e2)]
            rw [epr, decide_eq_true ⟨e1, e2⟩, if_pos rfl] at hK
            exact hK
          · rw [if_pos e2]
            exact nxt (by rw [epr]; exact decide_eq_false (fun q => e2 q.2))
        · rw [if_pos e1]
          exact nxt (by rw [epr]; exact decide_eq_false (fun q => e1 q.1))
      · rcases q with q | q
        · exact absurd q (nI_nn (by omega))
        · rw [nJ_le (by omega) (by omega)] at q; omega
  exact b_7_0 (loop _ 0 _ rfl hK)
theorem c_isMember {t : Nat} {y : Cond} {S : Int32} (h : kQ L xs s c0 c1 X0 X1 N) (hy : (tms X0)[t]? = some y) (hK : K (some (bz (memF (tms X1) y S))) s) : tT (yY L xs) (d + 4) 4 0 [.ref 55, .int (nI t), .int S, .null] [] s K := by
  obtain ⟨hP, ⟨r0, r1, r2⟩, ⟨h0, -⟩, ⟨h1, -⟩, -⟩ := h
  have h31 := sdX_31 h1
  have h310 := sdX_31 h0
  have htl := (List.getElem?_eq_some_iff.mp hy).1
  refine b_4_0 ⟨c1, ⟨so_55, r1⟩, c0, ⟨so_55, r0⟩, h1.1.1, c_alikeTerm (d := d) h1 h0 (fun t' y' e ht => ?_) (fun q => ?_)⟩
  · rw [rt_some]
    have htl' := (List.getElem?_eq_some_iff.mp ht).1
    have : t' = t := ((nJ_eq (by omega) (by omega)).mp e).symm
    subst this
    rw [hy] at ht
    cases ht
    refine b_4_12 ?_
    unfold memF at hK
    by_cases hin : y ∈ tms X1
    · rw [if_pos hin]
      have hidx := List.idxOf_lt_length_iff.mpr hin
      rw [if_neg (fun q => by have := nI_nn (a := (tms X1).idxOf y) (by omega); rw [q] at this; exact this (by decide))]
      rw [decide_eq_true hin, Bool.true_and] at hK
      by_cases hb : bt S ((tms X1).idxOf y) = true
      · rw [if_neg (fun q => by rw [(bt_t0 (by omega)).mp q] at hb; cases hb)]
        rw [hb] at hK; exact hK
      · have hb' : bt S ((tms X1).idxOf y) = false := by cases e : bt S ((tms X1).idxOf y) with | false => rfl | true => exact absurd e hb
        rw [if_pos ((bt_t0 (by omega)).mpr hb')]
        rw [hb'] at hK; exact hK
    · rw [if_neg hin, if_pos rfl]
      rw [decide_eq_false hin, Bool.false_and] at hK
      exact hK
  · rcases q with q | q
    · exact absurd q (nI_nn (by omega))
    · rw [nJ_le (by omega) (by omega)] at q; omega
theorem k_sides (h : kQ L xs s c0 c1 X0 X1 N) : sdX L xs s c0 X0 ∧ sdX L xs s c1 X1 := ⟨h.2.2.1.1, h.2.2.2.1.1⟩
theorem c_premLines {i : Nat} (h : kQ L xs s c0 c1 X0 X1 N) (hi : i < N.1.1) (h1 : ff (fun j => outB N.1.1 (N.2.2.1 i j)) (N.2.1 i) 0 = none → K (some 1) s) (h0 : ∀ j, ff (fun j => outB N.1.1 (N.2.2.1 i j)) (N.2.1 i) 0 = some j → K (some 0) (pV s 55 6 (nI j))) : tT (yY L xs) (d + 2) 5 0 [.ref 55, .int (nI i), .null] [] s K := by
  obtain ⟨hP, ⟨r0, r1, r2⟩, -, -, hN, hB⟩ := h
  have l := hN
  obtain ⟨⟨l1, l2, l3⟩, l4, l5, l6, l7, l8, l9, l10, l11⟩ := l
  obtain ⟨b1, b2, b3⟩ := id hB
  have hb := b2 i hi
  have loop : ∀ q k, q + k = N.2.1 i → ff (fun j => outB N.1.1 (N.2.2.1 i j)) q k = ff (fun j => outB N.1.1 (N.2.2.1 i j)) (N.2.1 i) 0 → tT (yY L xs) (d + 2) 5 2 [.ref 55, .int (nI i), .int (nI k)] [] s K := by
    intro q
    induction q with
    | zero =>
      intro k hk ef
      refine b_5_2 ⟨84, ⟨so_55, r2⟩, 89, ⟨so_84, rp_84_4 hP⟩, 300, ⟨sa_89, inR_nI (by omega) (by decide)⟩, ?_⟩
      rw [nI_cl (show i < 2147483648 by omega), l7 i hi, if_pos (by rw [nJ_le (by omega) (by omega)]; omega)]
      exact h1 ef.symm
    | succ q ih =>
      intro k hk ef
      refine b_5_2 ⟨84, ⟨so_55, r2⟩, 89, ⟨so_84, rp_84_4 hP⟩, 300, ⟨sa_89, inR_nI (by omega) (by decide)⟩, ?_⟩
      rw [nI_cl (show i < 2147483648 by omega), l7 i hi, if_neg (by rw [nJ_le (by omega) (by omega)]; omega)]
      refine ⟨84, ⟨so_55, r2⟩, 84, ⟨so_55, r2⟩, so_84, c_premiseOf hP hN hB hi (by omega) ?_⟩
      rw [rt_some]
      rw [ff_s] at ef
      refine b_5_28 ⟨so_84, c_isLine so_84 l1 (by omega) (fun p ep hpl => ?_) (fun q => ?_)⟩
      · rw [rt_some]
        refine b_5_31 ?_
        rw [if_pos (by decide), ← nI_succ k]
        rw [show outB N.1.1 (N.2.2.1 i k) = false by rw [ep]; exact out_in (by omega) hpl, if_neg (by decide)] at ef
        exact ih (k + 1) (by omega) ef
      · rw [rt_some]
        refine b_5_31 ?_
        rw [if_neg (fun q => q rfl)]
        rw [show outB N.1.1 (N.2.2.1 i k) = true from decide_eq_true q, if_pos rfl] at ef
        exact ⟨so_55, h0 k ef.symm⟩
  exact b_5_0 (loop _ 0 rfl rfl)
theorem c_parts {i t : Nat} {y : Cond} {S : Int32} (h : kQ L xs s c0 c1 X0 X1 N) (hi : i < N.1.1) (hy : (tms X0)[t]? = some y) (hp : ∀ j, j < N.2.1 i → ∃ k, N.2.2.1 i j = nI k ∧ k < N.1.1) (h1 : l3 (lackP (tms X0) (tms X1) N i y S) 3 0 = none → K (some 1) s) (h0 : ∀ x k, l3 (lackP (tms X0) (tms X1) N i y S) 3 0 = some (x, k) → K (some 0) (pV (pV s 55 5 (nI (x + 1))) 55 6 (prI (tms X0) y x k))) : tT (yY L xs) (d + 3) 6 0 [.ref 55, .int (nI i), .int (nI t), .int S, .null, .null, .null, .null] [] s K := by
  obtain ⟨s0, s1⟩ := k_sides h
  obtain ⟨r0, r1, r2⟩ := h.2.1
  have h31 := sdX_31 s0
  have loop2 : ∀ q x u5 u6 u7, q + x = 3 → l3 (lackP (tms X0) (tms X1) N i y S) q x = l3 (lackP (tms X0) (tms X1) N i y S) 3 0 → tT (yY L xs) (d + 3) 6 3 [.ref 55, .int (nI i), .int (nI t), .int S, .int (nI x), u5, u6, u7] [] s K := by
    intro q
    induction q with
    | zero =>
      intro x u5 u6 u7 hx el
      refine b_6_3 ?_
      rw [if_pos (by rw [nI_lit 3, nJ_le (by omega) (by omega)]; omega)]
      exact h1 el.symm
    | succ q ih =>
      intro x u5 u6 u7 hx el
      refine b_6_3 ?_
      rw [if_neg (by rw [nI_lit 3, nJ_le (by omega) (by omega)]; omega)]
      refine ⟨c1, ⟨so_55, r1⟩, s1.1.1, c_partsOfSet s1 (by omega) ?_⟩
      rw [rt_some]
      refine b_6_19 ?_
      have hlen := tms_pt s0.2.2.1 s0.2.2.2 (List.mem_of_getElem? hy) (show x < 3 by omega)
      have loop3 : ∀ q' k u7, q' + k = (pt y x).length → ff (fun q => !hasP N i (prI (tms X0) y x q) (pso (tms X1) S x (tms X1).length)) q' k = lackP (tms X0) (tms X1) N i y S x → tT (yY L xs) (d + 3) 6 24 [.ref 55, .int (nI i), .int (nI t), .int S, .int (nI x), .int (pso (tms X1) S x (tms X1).length), .int (nI k), u7] [] s K := by
        intro q'
        induction q' with
        | zero =>
          intro k u7 hk ef
          refine b_6_24 ⟨c0, ⟨so_55, r0⟩, s0.1.1, c_partsOf s0 hy (by omega) ?_⟩
          rw [rt_some]
          refine b_6_36 ?_
          rw [if_pos (by rw [nJ_le (by omega) (by omega)]; omega), ← nI_succ x]
          refine ih (x + 1) _ _ _ (by omega) ?_
          rw [← el]
          show _ = (match lackP (tms X0) (tms X1) N i y S x with | some k => some (x, k) | none => _)
          rw [← ef]; rfl
        | succ q' ih' =>
          intro k u7 hk ef
          refine b_6_24 ⟨c0, ⟨so_55, r0⟩, s0.1.1, c_partsOf s0 hy (by omega) ?_⟩
          rw [rt_some]
          refine b_6_36 ?_
          rw [if_neg (by rw [nJ_le (by omega) (by omega)]; omega)]
          refine ⟨c0, ⟨so_55, r0⟩, s0.1.1, c_partOf s0 hy (by omega) (by omega) ?_⟩
          rw [rt_some]
          refine b_6_51 ⟨so_55, c_hasPremise h hi hp ?_⟩
          rw [rt_some]
          refine b_6_62 ?_
          rw [ff_s] at ef
          cases hh : hasP N i (prI (tms X0) y x k) (pso (tms X1) S x (tms X1).length) with
          | true =>
            rw [if_pos (by decide), ← nI_succ k]
            rw [hh, if_neg (by decide)] at ef
            exact ih' (k + 1) _ (by omega) ef
          | false =>
            rw [if_neg (fun q => q rfl)]
            rw [hh, if_pos (by decide)] at ef
            have el' : l3 (lackP (tms X0) (tms X1) N i y S) (q + 1) x = some (x, k) := by
              show (match lackP (tms X0) (tms X1) N i y S x with | some k => some (x, k) | none => _) = _
              rw [← ef]
            have := h0 x k (by rw [← el, el'])
            rw [nI_succ x] at this
            exact ⟨so_55, so_55, this⟩
      exact loop3 _ 0 _ rfl rfl
  exact b_6_0 (loop2 3 0 _ _ _ rfl rfl)
theorem c_reason {i : Nat} (h : kQ L xs s c0 c1 X0 X1 N) (hi : i < N.1.1) (e5 : s.1 55 5 = -1) (e6 : s.1 55 6 = -1) (hK : ∀ s', f5 s s' → (∀ z, z < 5 → s'.1 55 z = s.1 55 z) → s'.1 55 5 = (rsn (tms X0) (tms X1) N i).2.1 → s'.1 55 6 = (rsn (tms X0) (tms X1) N i).2.2 → K (some (rsn (tms X0) (tms X1) N i).1) s') : tT (yY L xs) (d + 5) 3 0 [.ref 55, .int (nI i), .null, .null, .null] [] s K := by
  obtain ⟨s0, s1⟩ := k_sides h
  obtain ⟨hP, ⟨r0, r1, r2⟩, -, -, hN, hB⟩ := id h
  have l := hN
  obtain ⟨⟨l1, l2, l3⟩, l4, l5, l6, l7, l8, l9, l10, l11⟩ := l
  obtain ⟨b1, b2, b3⟩ := id hB
  have h310 := sdX_31 s0
  have h311 := sdX_31 s1
  have fin : ∀ (v : Int32 × Int32 × Int32) (s' : sT), rsn (tms X0) (tms X1) N i = v → f5 s s' → (∀ z, z < 5 → s'.1 55 z = s.1 55 z) → s'.1 55 5 = v.2.1 → s'.1 55 6 = v.2.2 → K (some v.1) s' := fun v s' e a b c d => by
    subst e; exact hK s' a b c d
  have fin1 : ∀ v : Int32, rsn (tms X0) (tms X1) N i = (v, -1, -1) → K (some v) s := fun v e => fin _ s e (f5_refl s) (fun _ _ => rfl) e5 e6
  refine b_3_0 ⟨84, ⟨so_55, r2⟩, 85, ⟨so_84, rp_84_0 hP⟩, 300, ⟨sa_85, inR_nI (by omega) (by decide)⟩, 84, ⟨so_55, r2⟩, 86, ⟨so_84, rp_84_1 hP⟩, 300, ⟨sa_86, inR_nI (by omega) (by decide)⟩, 84, ⟨so_55, r2⟩, 87, ⟨so_84, rp_84_2 hP⟩, 300, ⟨sa_87, inR_nI (by omega) (by decide)⟩, c0, ⟨so_55, r0⟩, s0.1.1, ?_⟩
  rw [nI_cl (show i < 2147483648 by omega), l4 i hi, l5 i hi, l6 i hi]
  refine c_isTerm s0 (fun t eg ht => ?_) (fun q => ?_)
  · rw [rt_some]
    have hy := List.getElem?_eq_getElem ht
    generalize (tms X0)[t] = y at hy
    have ers : rsn (tms X0) (tms X1) N i = rs1 (tms X0) (tms X1) N i y (N.1.2.2.1 i) (N.1.2.2.2 i) := by
      unfold rsn
      rw [eg, out_in (by omega) ht, if_neg (by decide), nI_cl (by omega), List.getD_eq_getElem?_getD, hy]; rfl
    rw [eg]
    generalize N.1.2.2.1 i = S at ers ⊢
    generalize N.1.2.2.2 i = r at ers ⊢
    unfold rs1 at ers
    refine b_3_39 ?_
    rw [if_neg (by decide)]
    refine ⟨c1, ⟨so_55, r1⟩, s1.1.1, c_isSet s1 ?_⟩
    rw [rt_some]
    refine b_3_50 ?_
    cases hset : setB (tms X1).length S with
    | false =>
      rw [if_pos (show bz false = 0 from rfl)]
      rw [if_pos hset] at ers
      exact fin1 1 ers
    | true =>
      rw [if_neg (by decide)]
      rw [if_neg (by rw [hset]; decide)] at ers
      by_cases hr : r = 0 ∨ r = 1
      case neg =>
        rw [if_pos hr] at ers
        rw [if_neg (fun q => hr (Or.inl q)), if_neg (fun q => hr (Or.inr q))]
        exact fin1 1 ers
      rw [if_neg (fun q => q hr)] at ers
      have go : tT (yY L xs) (d + 5) 3 66 [.ref 55, .int (nI i), .int (nI t), .int S, .int r] [] s K := by
        refine b_3_66 ?_
        by_cases hr0 : r = 0
        · rw [if_neg (fun q => q hr0)]
          rw [if_pos hr0] at ers
          refine ⟨so_55, c_isMember h hy ?_⟩
          rw [rt_some]
          refine b_3_77 ?_
          cases hm : memF (tms X1) y S with
          | false =>
            rw [hm, if_neg (by decide)] at ers
            exact fin1 2 ers
          | true =>
            rw [hm, if_pos rfl] at ers
            exact fin1 0 ers
        rw [if_pos hr0]
        rw [if_neg hr0] at ers
        have tail : ¬ (full y = true ∧ anyF (tms X1) S = false) → tT (yY L xs) (d + 5) 3 112 [.ref 55, .int (nI i), .int (nI t), .int S, .int r] [] s K := fun hnf => by
          unfold rs2 at ers
          rw [if_neg hnf] at ers
          refine b_3_112 ⟨so_55, tt_mono (c_premLines (d := d) h hi (fun ef => ?_) (fun j ef => ?_)) (by omega) (fun _ _ q => q)⟩
          · rw [rt_some]
            rw [ef] at ers
            simp only at ers
            refine b_3_117 ?_
            rw [if_pos (by decide)]
            refine ⟨so_55, tt_mono (c_parts (d := d) h hi hy (fun j hj => out_f (by omega) (ff_none ef j (by omega) (by omega))) (fun el => ?_) (fun x k el => ?_)) (by omega) (fun _ _ q => q)⟩
            · rw [rt_some]
              rw [el] at ers
              exact b_3_129 (fin1 0 ers)
            · rw [rt_some]
              rw [el] at ers
              refine b_3_129 (fin _ _ ers (f5_put (f5_put (f5_refl s))) (fun z hz => ?_) ?_ ?_)
              · rw [pV_1, if_neg (by omega), pV_1, if_neg (by omega)]
              · rw [pV_1, if_neg (by decide), pV_1, if_pos ⟨rfl, rfl⟩]
              · rw [pV_1, if_pos ⟨rfl, rfl⟩]
          · rw [rt_some]
            rw [ef] at ers
            refine b_3_117 ?_
            rw [if_neg (fun q => q rfl)]
            refine fin _ _ ers (f5_put (f5_refl s)) (fun z hz => ?_) ?_ ?_
            · rw [pV_1, if_neg (by omega)]
            · rw [pV_1, if_neg (by decide)]; exact e5
            · rw [pV_1, if_pos ⟨rfl, rfl⟩]
        have ebit : (1 : Int32) <<< (nI t &&& 31) = bitI t := rfl
        refine ⟨c0, ⟨so_55, r0⟩, s0.1.1, ?_⟩
        rw [ebit]
        refine c_anyFull s0 ?_
        rw [rt_some, anyF_bit (by omega) hy]
        refine b_3_96 ?_
        cases hf : full y with
        | false =>
          rw [if_pos (show bz false = 0 from rfl)]
          exact tail (fun q => by rw [hf] at q; cases q.1)
        | true =>
          rw [if_neg (by decide)]
          refine ⟨c1, ⟨so_55, r1⟩, s1.1.1, c_anyFull s1 ?_⟩
          rw [rt_some]
          refine b_3_107 ?_
          cases ha : anyF (tms X1) S with
          | false =>
            rw [if_neg (fun q => q rfl)]
            unfold rs2 at ers
            rw [if_pos ⟨hf, ha⟩] at ers
            exact fin1 3 ers
          | true =>
            rw [if_pos (by decide)]
            exact tail (fun q => by rw [ha] at q; cases q.2)
      by_cases hr0 : r = 0
      · rw [if_pos hr0]; exact go
      · rw [if_neg hr0, if_pos (by rcases hr with q | q; exact absurd q hr0; exact q)]; exact go
  · rw [rt_some]
    refine b_3_39 ?_
    rw [if_pos rfl]
    refine fin1 1 ?_
    unfold rsn
    rw [show outB (tms X0).length (N.1.2.1 i) = true from decide_eq_true q, if_pos rfl]
end CR
