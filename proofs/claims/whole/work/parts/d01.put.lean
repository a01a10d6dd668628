/-! A SIDE IS PUT: class and reference -/
def rmPut (R : rmT) (σ : Nat) (D : sdT) : rmT := (R.1, R.2.1, if σ = 0 then D else R.2.2.1, if σ = 0 then R.2.2.2.1 else D, R.2.2.2.2.1, lnZ)
/-- the tape is empty, the fault is f -/
def rmT0 (R : rmT) (f : Int32) : rmT := ((0, R.1.2), f, R.2.2)
theorem simC_mk {s s' : sT} {R R' : rmT} {I : Nat → Option rmT} (h : simC s R I) (hP : rP s'.2) (h64 : s'.2 64 = s.2 64) (hS : ∀ i, 94 ≤ i → i < 186 → s'.1 i = s.1 i) (hslot : R'.2.2.2.2.1 = R.2.2.2.2.1) (hr : ∀ c0 c1, cSides s.2 c0 c1 → rmC s.1 c0 c1 61 R → txC s'.1 62 R'.1 ∧ s'.1 61 4 = R'.2.1 ∧ sdC s'.1 c0 R'.2.2.1 ∧ sdC s'.1 c1 R'.2.2.2.1 ∧ lnC s'.1 84 R'.2.2.2.2.2) : simC s' R' I := by
  obtain ⟨q1, ⟨c0, c1, q2, q3⟩, q4⟩ := h
  obtain ⟨a1, a2, a3, a4, a5⟩ := hr c0 c1 q2 q3
  refine ⟨hP, ⟨c0, c1, ?_, a1, a2, a3, a4, fun k hk => ?_, a5⟩, fun k hk => ?_⟩
  · unfold cSides at q2 ⊢; rw [h64]; exact q2
  · rw [hslot]
    exact txC_off (q3.2.2.2.2.1 k hk) (hS _ (by omega) (by omega)) (hS _ (by omega) (by omega))
  · have := q4 k hk
    cases hIk : I k with
    | none => rw [hIk] at this; simp only at this ⊢; rw [hS 185 (by decide) (by decide)]; exact this
    | some R'' =>
      rw [hIk] at this
      simp only at this ⊢
      rw [hS 185 (by decide) (by decide)]
      exact ⟨this.1, rmC_off this.2 ⟨by omega, by omega⟩ ⟨by omega, by omega⟩ (fun i _ _ => hS i (by omega) (by omega))⟩
theorem simR_mk {s s' : sT} {R R' : rmT} {I : Nat → Option rmT} (h : simR s R I) (hI : ∀ k R', k < 2 → I k = some R' → rmB gD R') (h2 : s'.2 = s.2) (h188 : ∀ j, j < R'.1.1 → s'.1 188 j = R'.1.2 j) (h189 : s'.1 189 = s.1 189) (h3 : s'.1 186 3 = nI R'.1.1) (h4 : s'.1 186 4 = R'.2.1) (ha : ∀ j, 21378 ≤ j → s'.1 187 j = s.1 187 j) (hR : rmR (s'.1 187) 0 R') : simR s' R' I := by
  obtain ⟨q1, -, q2, q3⟩ := h
  refine ⟨by rw [h2]; exact q1, hR, ⟨h3, h188, h4⟩, fun k hk => ?_⟩
  have := q3 k hk
  cases hIk : I k with
  | none => rw [hIk] at this; simp only at this ⊢; rw [h189]; exact this
  | some R'' =>
    rw [hIk] at this
    simp only at this ⊢
    have hb := hI k R'' hk hIk
    rw [h189, ha _ (by omega), ha _ (by omega)]
    refine ⟨this.1, rmR_off gD_sdB this.2.1 hb (fun j _ _ => ha j (by omega)), fun j hj => ?_, this.2.2.2⟩
    rw [ha _ (by omega)]; exact this.2.2.1 j hj
theorem gD_70 {v : Nat → Nat → Int32} {c : Nat} {D : sdT} (hD : gD D) (h : sdC v c D) : v (c + 7) 0 = 0 := by
  obtain ⟨x, _, _, rfl⟩ := hD
  rw [h.2.2.2.2.2.1 0 (Nat.zero_le _)]
  rfl
section PU
variable {L : Nat} {xs : Nat → Int32} {d : Nat} {s : sT} {K : Option Int32 → sT → Prop} {R : rmT} {I : Nat → Option rmT}
theorem c_put {T : List Cond} {p k σ : Nat} {X : Cond} (hC : simC s R I) (hg : gD R.2.2.1 ∧ gD R.2.2.2.1) (h : tc s T p) (hσ : σ < 2) (hk : T[k]? = some X) (hX : z0 X ≤ 30)
    (hh : ∀ s', simC s' (rmPut R σ (sdOf X)) I → tc s' T p → (∀ i, (186 ≤ i ∨ i = 26 ∨ i = 35) → s'.1 i = s.1 i ∧ s'.2 i = s.2 i) → K (some (nI (tms X).length)) s') : tT (yY L xs) (d + 87) 145 0 [.ref 0, .int (nI σ), .int (nI k)] [] s K := by
  have hP := h.1
  have hC0 := hC
  obtain ⟨-, ⟨c0, c1, hcs, hrm⟩, -⟩ := hC0
  obtain ⟨c, hc1, hc2, hc3⟩ := cSides_at hcs hσ
  have hsK : sdK (yY L xs) s.2 c := by rcases hc2 with rfl | rfl; exact sk_65 hP; exact sk_74 hP
  have hold : sdC s.1 c (sideOf R σ) := by rw [hc3]; exact rmC_side hrm σ
  have hgs : gD (sideOf R σ) := by unfold sideOf; split; exact hg.1; exact hg.2
  have ine : inR (nI σ) 2 := inR_nI hσ (by decide)
  have cσ : (nI σ).toNatClampNeg = σ := nI_cl (by omega)
  refine b_145_0 ⟨12, ⟨so_0, rp_0_1 hP⟩, 61, ⟨so_0, rp_0_8 hP⟩, 64, ⟨so_61, rp_61_1 hP⟩, 5, 2, c, ⟨sq_64, ine, by rw [cσ]; exact hc1⟩, so_12, c_findTerms (by omega) h hsK (gD_70 hgs hold) hk hX (fun s1 q1 q2 q3 q4 => ?_)⟩
  rw [rt_none]
  have hP1 : rP s1.2 := by rw [q3]; exact hP
  refine b_145_17 ⟨61, ⟨so_0, rp_0_8 hP1⟩, 84, ⟨so_61, rp_61_3 hP1⟩, so_84, c_clear so_84 so_91 (rp_84_6 hP1) (fun s2 w1 w2 w3 => ?_)⟩
  rw [rt_none]
  have hP2 : rP s2.2 := by rw [w1]; exact hP1
  have e22 : s2.2 = s.2 := w1.trans q3
  refine b_145_27 ⟨61, ⟨so_0, rp_0_8 hP2⟩, 64, ⟨so_61, rp_61_1 hP2⟩, 5, 2, c, ⟨sq_64, ine, by rw [cσ, e22]; exact hc1⟩, hsK.1, ?_⟩
  have c84 : ∀ i, c ≤ i → i < c + 9 → s2.1 i = s1.1 i := fun i h1 h2 => w2 i (by omega) (by omega)
  have hnew : sdC s2.1 c (sdOf X) := sdC_off q2 c84
  rw [hnew.2.1.1]
  refine hh s2 (simC_mk hC hP2 (by rw [e22]) (fun i h1 h2 => ?_) rfl (fun e0 e1 hcs' hrm' => ?_)) ?_ (fun i hi => ⟨?_, by rw [e22]⟩)
  · rw [w2 i (by omega) (by omega), q4 i (by omega) (by omega)]
  · have ee0 : e0 = c0 := Option.some.inj (hcs'.1.symm.trans hcs.1)
    have ee1 : e1 = c1 := Option.some.inj (hcs'.2.1.symm.trans hcs.2.1)
    subst ee0 ee1
    have oth : ∀ i, i < 84 → (i < 12 ∨ 15 < i) → (i < c ∨ c + 8 < i) → s2.1 i = s.1 i := fun i h1 h2 h3 => by rw [w2 i (by omega) (by omega), q4 i h2 h3]
    refine ⟨txC_off hrm'.1 (oth 62 (by decide) (by omega) (by omega)) (oth 63 (by decide) (by omega) (by omega)), by rw [oth 61 (by decide) (by omega) (by omega)]; exact hrm'.2.1, ?_, ?_, w3⟩
    · show sdC s2.1 e0 (if σ = 0 then sdOf X else R.2.2.1)
      by_cases e : σ = 0
      · rw [if_pos e] at hc3 ⊢; rw [← hc3]; exact hnew
      · rw [if_neg e] at hc3 ⊢
        exact sdC_off hrm'.2.2.1 (fun i h1 h2 => oth i (by rcases hcs.2.2 with ⟨rfl, rfl⟩ | ⟨rfl, rfl⟩ <;> omega) (by rcases hcs.2.2 with ⟨rfl, rfl⟩ | ⟨rfl, rfl⟩ <;> omega) (by rcases hcs.2.2 with ⟨rfl, rfl⟩ | ⟨rfl, rfl⟩ <;> omega))
    · show sdC s2.1 e1 (if σ = 0 then R.2.2.2.1 else sdOf X)
      by_cases e : σ = 0
      · rw [if_pos e] at hc3 ⊢
        exact sdC_off hrm'.2.2.2.1 (fun i h1 h2 => oth i (by rcases hcs.2.2 with ⟨rfl, rfl⟩ | ⟨rfl, rfl⟩ <;> omega) (by rcases hcs.2.2 with ⟨rfl, rfl⟩ | ⟨rfl, rfl⟩ <;> omega) (by rcases hcs.2.2 with ⟨rfl, rfl⟩ | ⟨rfl, rfl⟩ <;> omega))
      · rw [if_neg e] at hc3 ⊢; rw [← hc3]; exact hnew
  · exact tc_off q1 w1 (by rw [w2 1 (by decide) (by decide)]) (by rw [w2 1 (by decide) (by decide)]) (fun z _ _ => w2 z (by omega) (by omega))
  · rw [w2 i (by omega) (by omega), q4 i (by omega) (by omega)]
/-- a shape becomes a side of the reference -/
theorem r_becomes {T : List Cond} {j σ : Nat} {X : Cond} (hR : simR s R I) (hB : rmB gD R) (hI : ∀ k R', k < 2 → I k = some R' → rmB gD R') (hT : tb s T) (hl : T.length ≤ 1500) (hpn : pn T ≤ 24000) (hj : T[j]? = some X) (hσ : σ < 2)
    (h1 : 30 < z0 X → ∀ s', simR s' R I → (∀ i, i < 186 → s'.1 i = s.1 i ∧ s'.2 i = s.2 i) → K (some (-1)) s')
    (h0 : z0 X ≤ 30 → ∀ s', simR s' (rmPut R σ (sdOf X)) I → (∀ i, i < 186 → s'.1 i = s.1 i ∧ s'.2 i = s.2 i) → K (some (nI (tms X).length)) s') : tT (yY L xs) (d + 10) 210 0 [.ref 186, .int (nI σ), .int (nI j), .null] [] s K := by
  have hM := hT.1
  have cX := tb_cn hT (List.mem_of_getElem? hj)
  have hz1 := hT.2.2 X (List.mem_of_getElem? hj)
  have z01X := z01 cX
  have hR0 := hR
  obtain ⟨-, ⟨r1, r2, r3, r4⟩, ⟨p1, p2, p3⟩, -⟩ := hR0
  refine b_210_0 ⟨so_186, tt_mono (r_spells (d := d) hT hl hpn hj (fun s1 q1 q2 q3 => ?_)) (by omega) (fun _ _ q => q)⟩
  rw [rt_none]
  have e21 : s1.2 = s.2 := q1.1
  have o1 : ∀ z, z ≠ 186 → z ≠ 206 → z ≠ 207 → s1.1 z = s.1 z := q1.2.1
  have hM1 : rM s1.2 := by rw [e21]; exact hM
  refine b_210_5 ⟨so_186, ?_⟩
  rw [q2]
  by_cases hz : z0 X ≤ 30
  · rw [if_pos (by rw [nI_lit 30, nJ_le (by omega) (by omega)]; exact hz)]
    refine ⟨187, ⟨so_186, rm_186_0 hM1⟩, so_186, 42882, ?_⟩
    rw [nI_lit 31, nJ_mul, nI_cl (show 31 * σ < 2147483648 by omega)]
    refine ⟨⟨sa_187, inR_nI (by omega) (by decide)⟩, ?_⟩
    have loop : ∀ q i (s2 : sT), q + i = z0 X → s2.2 = s.2 → (∀ z, z ≠ 187 → s2.1 z = s1.1 z) → (∀ t, s2.1 187 t = if t = 31 * σ then nI (z0 X) else if 31 * σ + 1 ≤ t ∧ t < 31 * σ + 1 + i then (sp X 0).getD (t - (31 * σ + 1)) 0 else s.1 187 t) → tT (yY L xs) (d + 10) 210 31 [.ref 186, .int (nI σ), .int (nI j), .int (nI i)] [] s2 K := by
      intro q
      induction q with
      | zero =>
        intro i s2 hi g1 g2 g3
        have hM2 : rM s2.2 := by rw [g1]; exact hM
        refine b_210_31 ⟨so_186, ?_⟩
        rw [g2 186 (by decide), q2, if_pos (by rw [nJ_le (by omega) (by omega)]; omega)]
        refine ⟨so_186, r_forgets hM2 (fun s3 w1 w2 w3 w4 => ?_)⟩
        rw [rt_none]
        have hM3 : rM s3.2 := by rw [w1]; exact hM2
        have e23 : s3.2 = s.2 := w1.trans g1
        have ei : i = z0 X := by omega
        subst ei
        -- the texts now
        have tnew : ∀ t, t < 186 → s3.1 187 t = if t = 31 * σ then nI (z0 X) else if 31 * σ + 1 ≤ t ∧ t < 31 * σ + 1 + z0 X then (sp X 0).getD (t - (31 * σ + 1)) 0 else s.1 187 t := fun t ht => by rw [w3 t (by omega), g3]
        have hi3 : ∀ t, 10689 ≤ t → s3.1 187 t = s.1 187 t := fun t ht => by rw [w3 t (by omega), g3, if_neg (by omega), if_neg (by omega)]
        have txN : txR (s3.1 187) (31 * σ) (txL (sp X 0)) := by
          refine ⟨by rw [tnew _ (by omega), if_pos rfl]; rfl, fun k hk => ?_⟩
          have hk' : k < z0 X := hk
          rw [tnew _ (by omega), if_neg (by omega), if_pos ⟨by omega, by omega⟩, show 31 * σ + 1 + k - (31 * σ + 1) = k by omega]; rfl
        have txo : ∀ p' D, txR (s.1 187) p' D → D.1 ≤ 30 → (p' + 31 ≤ 31 * σ ∨ 31 * σ + 31 ≤ p') → p' + 31 ≤ 186 → txR (s3.1 187) p' D := fun p' D hD hD30 hdis hp => by
          refine txR_off hD hD30 (fun k h1 h2 => ?_)
          rw [tnew k (by omega), if_neg (by omega), if_neg (by omega)]
        obtain ⟨x0, cx0, hx0, ed0⟩ := hB.2.1
        obtain ⟨x1, cx1, hx1, ed1⟩ := hB.2.2.1
        have hrm : rmR (s3.1 187) 0 (rmPut R σ (sdOf X)) := by
          refine ⟨?_, ?_, fun k hk => ?_, w4⟩
          · show txR _ 0 (if σ = 0 then sdOf X else R.2.2.1).1
            by_cases e : σ = 0
            · rw [if_pos e]; subst e; exact txN
            · rw [if_neg e]; exact txo 0 _ r1 (by rw [ed0]; exact hx0) (by omega) (by omega)
          · show txR _ (0 + 31) (if σ = 0 then R.2.2.2.1 else sdOf X).1
            by_cases e : σ = 0
            · rw [if_pos e]; exact txo (0 + 31) _ r2 (by rw [ed1]; exact hx1) (by omega) (by omega)
            · rw [if_neg e, show 0 + 31 = 31 * σ by omega]; exact txN
          · have := (gD_sdB _ (hB.2.2.2.1 k hk)).1
            exact txo (0 + 62 + 31 * k) _ (r3 k hk) this (by omega) (by omega)
        refine b_210_69 ⟨so_186, ?_⟩
        have both : ∃ Xa Xb, cn Xa ∧ z0 Xa ≤ 30 ∧ cn Xb ∧ z0 Xb ≤ 30 ∧ txR (s3.1 187) 0 (txL (sp Xa 0)) ∧ txR (s3.1 187) 31 (txL (sp Xb 0)) ∧ (if σ = 0 then Xa else Xb) = X := by
          by_cases e : σ = 0
          · subst e
            refine ⟨X, x1, cX, hz, cx1, hx1, txN, ?_, rfl⟩
            have := hrm.2.1
            have e2 : (rmPut R 0 (sdOf X)).2.2.2.1.1 = txL (sp x1 0) := by show R.2.2.2.1.1 = _; rw [ed1]; rfl
            rw [e2] at this; exact this
          · have e1 : σ = 1 := by omega
            subst e1
            refine ⟨x0, X, cx0, hx0, cX, hz, ?_, txN, rfl⟩
            have := hrm.1
            have e2 : (rmPut R 1 (sdOf X)).2.2.1.1 = txL (sp x0 0) := by show R.2.2.1.1 = _; rw [ed0]; rfl
            rw [e2] at this; exact this
        obtain ⟨Xa, Xb, ca, ha, cb, hb, ta, tbb, hab⟩ := both
        refine r_laysBoth (p := 0) (q := 31) hM3 ca ha cb hb ta tbb (by decide) (by decide) (fun s4 T4 v1 v2 v3 v4 v5 v6 => ?_)
        rw [rt_none]
        have hM4 : rM s4.2 := v1.1
        have e211 : s4.1 211 σ = nI (tms X).length := by
          by_cases e : σ = 0
          · subst e; rw [← hab]; exact v5.1.2.2.1
          · have e1 : σ = 1 := by omega
            subst e1; rw [← hab]; exact v6.1.2.2.1
        refine b_210_76 ⟨211, ⟨so_186, rm_186_35 hM4⟩, 2, ⟨sa_211, inR_nI hσ (by decide)⟩, ?_⟩
        rw [nI_cl (by omega), e211]
        have o4 : ∀ z, z < 190 → z ≠ 186 → z ≠ 187 → s4.1 z = s.1 z := fun z h1 h2 h3 => by rw [v4.2.1 z h1 h2, w2 z h3, g2 z h3, o1 z h2 (by omega) (by omega)]
        have o46 : ∀ z, z ≤ 4 → s4.1 186 z = s.1 186 z := fun z hz => by rw [v4.2.2 z hz, w2 186 (by decide), g2 186 (by decide), q1.2.2 z (by omega) (by omega)]
        have e187 : s4.1 187 = s3.1 187 := v4.2.1 187 (by decide) (by decide)
        refine h0 hz s4 (simR_mk hR hI (v4.1.trans e23) (fun t ht => by rw [o4 188 (by decide) (by decide) (by decide)]; exact p2 t ht) (o4 189 (by decide) (by decide) (by decide)) (by rw [o46 3 (by decide)]; exact p1) (by rw [o46 4 (by decide)]; exact p3) (fun t ht => by rw [e187]; exact hi3 t (by omega)) (by rw [e187]; exact hrm)) (fun i hi => ⟨o4 i (by omega) (by omega) (by omega), by rw [v4.1, e23]⟩)
      | succ q ih =>
        intro i s2 hi g1 g2 g3
        have hM2 : rM s2.2 := by rw [g1]; exact hM
        have hil : i < (sp X 0).length := by show i < z0 X; omega
        have e207 : s2.1 207 i = (sp X 0)[i] := by rw [g2 207 (by decide)]; exact q3 i _ (List.getElem?_eq_getElem hil)
        refine b_210_31 ⟨so_186, ?_⟩
        rw [g2 186 (by decide), q2, if_neg (by rw [nJ_le (by omega) (by omega)]; omega)]
        refine ⟨187, ⟨so_186, rm_186_0 hM2⟩, 207, ⟨so_186, rm_186_28 hM2⟩, 600, ?_⟩
        rw [nI_lit 31, nI_lit 1, nJ_mul, nJ_add, nJ_add, nI_cl (show i < 2147483648 by omega), nI_cl (show 31 * σ + 1 + i < 2147483648 by omega), e207]
        refine ⟨⟨sa_207, inR_nI (by omega) (by decide)⟩, 42882, ⟨sa_187, inR_nI (by omega) (by decide)⟩, ?_⟩
        have egd : (sp X 0).getD i 0 = (sp X 0)[i] := by rw [List.getD_eq_getElem?_getD, List.getElem?_eq_getElem hil]; rfl
        have := ih (i + 1) (pV s2 187 (31 * σ + 1 + i) ((sp X 0)[i])) (by omega) g1 (fun z hz => by rw [← g2 z hz]; funext t; rw [pV_1, if_neg (by omega)]) (fun t => by
          rw [pV_1]
          by_cases e : t = 31 * σ + 1 + i
          · rw [if_pos ⟨rfl, e⟩, if_neg (by omega), if_pos ⟨by omega, by omega⟩, show t - (31 * σ + 1) = i by omega, egd]
          · rw [if_neg (by omega), g3]
            by_cases e1 : t = 31 * σ
            · rw [if_pos e1, if_pos e1]
            · rw [if_neg e1, if_neg e1]
              by_cases e2 : 31 * σ + 1 ≤ t ∧ t < 31 * σ + 1 + i
              · rw [if_pos e2, if_pos ⟨by omega, by omega⟩]
              · rw [if_neg e2, if_neg (by omega)])
        rw [nI_succ] at this
        exact this
    refine loop (z0 X) 0 _ (by omega) e21 (fun z hz => by funext t; rw [pV_1, if_neg (by omega)]) (fun t => ?_)
    rw [pV_1]
    by_cases e : t = 31 * σ
    · rw [if_pos ⟨rfl, e⟩, if_pos e]
    · rw [if_neg (by omega), if_neg e, if_neg (by omega), o1 187 (by decide) (by decide) (by decide)]
  · rw [if_neg (by rw [nI_lit 30, nJ_le (by omega) (by omega)]; exact hz)]
    have hrm : rmR (s1.1 187) 0 R := by rw [o1 187 (by decide) (by decide) (by decide)]; exact ⟨r1, r2, r3, r4⟩
    exact h1 (by omega) s1 (simR_mk hR hI e21 (fun t ht => by rw [o1 188 (by decide) (by decide) (by decide)]; exact p2 t ht) (o1 189 (by decide) (by decide) (by decide)) (by rw [q1.2.2 3 (by decide) (by decide)]; exact p1) (by rw [q1.2.2 4 (by decide) (by decide)]; exact p3) (fun t _ => by rw [o1 187 (by decide) (by decide) (by decide)]) hrm) (fun i hi => ⟨o1 i (by omega) (by omega) (by omega), by rw [e21]⟩)
end PU
