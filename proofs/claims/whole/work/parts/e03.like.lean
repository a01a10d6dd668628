/-! LIKE, HAS -/
def lkAns (X Xo : Cond) (i : Int32) : Int32 := if i < 0 ∨ nI (tms Xo).length ≤ i then -1 else if (tms Xo).getD i.toNatClampNeg S0 ∈ tms X then nI ((tms X).idxOf ((tms Xo).getD i.toNatClampNeg S0)) else -1
theorem lk_in {X Xo y : Cond} {t : Nat} (h31 : (tms Xo).length ≤ 31) (ht : (tms Xo)[t]? = some y) : lkAns X Xo (nI t) = if y ∈ tms X then nI ((tms X).idxOf y) else -1 := by
  have htl := (List.getElem?_eq_some_iff.mp ht).1
  unfold lkAns
  rw [if_neg (fun q => by
    rcases q with q | q
    · exact nI_nn (by omega) q
    · rw [nJ_le (by omega) (by omega)] at q; omega), nI_cl (by omega), List.getD_eq_getElem?_getD, ht]; rfl
/-- which letter a byte is -/
def ltr (c : Int32) : Option Nat := if c = 97 then some 0 else if c = 98 then some 1 else if c = 99 then some 2 else none
theorem ltr_some {c : Int32} {x : Nat} (h : ltr c = some x) : x < 3 ∧ c - 97 = nI x ∧ ¬ c < 97 ∧ ¬ (99 : Int32) < c ∧ ¬ (c - 97) < 0 ∧ (c - 97) < 3 := by
  unfold ltr at h
  by_cases h1 : c = 97
  · rw [if_pos h1] at h; cases h; subst h1; decide
  · rw [if_neg h1] at h
    by_cases h2 : c = 98
    · rw [if_pos h2] at h; cases h; subst h2; decide
    · rw [if_neg h2] at h
      by_cases h3 : c = 99
      · rw [if_pos h3] at h; cases h; subst h3; decide
      · rw [if_neg h3] at h; cases h
theorem ltr_none {c : Int32} (h : ltr c = none) : (c < 97 ∨ (99 : Int32) < c) ∧ ((c - 97) < 0 ∨ ¬ (c - 97) < 3) := by
  have hn : ¬ (c = 97 ∨ c = 98 ∨ c = 99) := fun q => by
    unfold ltr at h
    rcases q with q | q | q
    · rw [if_pos q] at h; cases h
    · rw [if_neg (by rw [q]; decide), if_pos q] at h; cases h
    · rw [if_neg (by rw [q]; decide), if_neg (by rw [q]; decide), if_pos q] at h; cases h
  refine ⟨?_, ?_⟩
  · by_cases h1 : c < 97
    · exact Or.inl h1
    · by_cases h2 : (99 : Int32) < c
      · exact Or.inr h2
      · exact absurd (abc_of h1 h2) hn
  · by_cases h1 : (c - 97) < 0
    · exact Or.inl h1
    · refine Or.inr (fun h2 => hn ?_)
      obtain ⟨n, hn', e⟩ := i32_ex h1
      rw [e, nI_lit 3, nJ_lt hn' (by omega)] at h2
      have ec : c = nI n + 97 := by rw [← e, Int32.sub_add_cancel]
      rcases (show n = 0 ∨ n = 1 ∨ n = 2 by omega) with rfl | rfl | rfl
      · exact Or.inl ec
      · exact Or.inr (Or.inl ec)
      · exact Or.inr (Or.inr ec)
/-- is the word from i on, q letters, one of the set's? -/
def hsG (F : List Cond) (f : Nat → Int32) : Nat → Nat → Int32 → Bool
  | 0, _, S => anyF F S
  | q + 1, i, S => match ltr (f i) with
    | some x => hsG F f q (i + 1) (pso F S x F.length)
    | none => false
def hsAns (R : rmT) (X : Cond) : Int32 := if 30 < R.1.1 then 0 else bz (hsG (tms X) R.1.2 R.1.1 0 1)
theorem hs_01 (R : rmT) (X : Cond) : hsAns R X = 0 ∨ hsAns R X = 1 := by
  unfold hsAns
  split
  · exact Or.inl rfl
  · exact bz_01 _
section LH
variable {L : Nat} {xs : Nat → Int32} {d : Nat} {s : sT} {K : Option Int32 → sT → Prop} {R : rmT} {I : Nat → Option rmT}
theorem now_side {σ : Nat} {X : Cond} (hC : simC s R I) (hσ : σ < 2) (e : sideOf R σ = sdOf X) (cX : cn X) (zX : z0 X ≤ 30) : ∃ c, s.2 64 σ = some c ∧ sdX L xs s c X := by
  have hP := hC.1
  obtain ⟨-, ⟨c0, c1, hcs, hrm⟩, -⟩ := hC
  obtain ⟨c, hc1, hc2, hc3⟩ := cSides_at hcs hσ
  refine ⟨c, hc1, ?_, ?_, cX, zX⟩
  · rcases hc2 with rfl | rfl
    · exact sk_65 hP
    · exact sk_74 hP
  · have := rmC_side hrm σ
    rw [← hc3, e] at this
    exact this
theorem gd_X {σ : Nat} (hB : rmB gD R) : ∃ X, cn X ∧ z0 X ≤ 30 ∧ sideOf R σ = sdOf X := gd_side hB σ
theorem one_sub {σ : Nat} (hσ : σ < 2) : (1 : Int32) - nI σ = nI (1 - σ) := by rw [nI_lit 1, nJ_sub (by omega)]
theorem c_like {σ : Nat} {i : Int32} {X Xo : Cond} (hC : simC s R I) (hσ : σ < 2) (e : sideOf R σ = sdOf X) (cX : cn X) (zX : z0 X ≤ 30) (eo : sideOf R (1 - σ) = sdOf Xo) (cXo : cn Xo) (zXo : z0 Xo ≤ 30) : doC (yY L xs) (d + 4) 122 [.ref 0, .int (nI σ), .int i] s R I (some (lkAns X Xo i)) R I := by
  intro K kk
  have hP := hC.1
  obtain ⟨c, hc, hx⟩ := now_side (L := L) (xs := xs) hC hσ e cX zX
  obtain ⟨co, hco, hxo⟩ := now_side (L := L) (xs := xs) hC (σ := 1 - σ) (by omega) eo cXo zXo
  have fin : K (some (lkAns X Xo i)) s := kk s hC (fun _ _ => ⟨rfl, rfl⟩)
  refine b_122_0 (c_isSide (fun _ _ _ => ?_) (fun hn => absurd rfl (hn σ hσ)))
  rw [rt_some]
  refine b_122_4 ?_
  rw [if_pos (by decide)]
  refine ⟨61, ⟨so_0, rp_0_8 hP⟩, 64, ⟨so_61, rp_61_1 hP⟩, 5, 2, c, ⟨sq_64, inR_nI hσ (by decide), by rw [nI_cl (by omega)]; exact hc⟩, 61, ⟨so_0, rp_0_8 hP⟩, 64, ⟨so_61, rp_61_1 hP⟩, 5, 2, co, ?_⟩
  rw [one_sub hσ]
  refine ⟨⟨sq_64, inR_nI (by omega) (by decide), by rw [nI_cl (by omega)]; exact hco⟩, hx.1.1, c_alikeTerm (d := d) hx hxo (fun t y e ht => ?_) (fun q => ?_)⟩
  · rw [rt_some]
    refine b_122_33 ?_
    rw [e, lk_in (sdX_31 hxo) ht] at fin
    exact fin
  · rw [rt_some]
    refine b_122_33 ?_
    have : lkAns X Xo i = -1 := if_pos q
    rw [this] at fin
    exact fin
theorem c_like_no {a i : Int32} (hC : simC s R I) (h : ∀ k, k < 2 → ¬ a = nI k) : doC (yY L xs) (d + 1) 122 [.ref 0, .int a, .int i] s R I (some (-1)) R I := by
  intro K kk
  refine b_122_0 (c_isSide (fun k hk e => absurd e (h k hk)) (fun _ => ?_))
  rw [rt_some]
  refine b_122_4 ?_
  rw [if_neg (fun q => q rfl)]
  exact kk s hC (fun _ _ => ⟨rfl, rfl⟩)
/-- the two sides' shapes -/
theorem both_X (hB : rmB gD R) : ∃ X0 X1, (cn X0 ∧ z0 X0 ≤ 30 ∧ R.2.2.1 = sdOf X0) ∧ (cn X1 ∧ z0 X1 ≤ 30 ∧ R.2.2.2.1 = sdOf X1) := by
  obtain ⟨X0, a1, a2, a3⟩ := hB.2.1
  obtain ⟨X1, b1, b2, b3⟩ := hB.2.2.1
  exact ⟨X0, X1, ⟨a1, a2, a3⟩, b1, b2, b3⟩
/-- side σ's shape of two -/
def sel (σ : Nat) (X0 X1 : Cond) : Cond := if σ = 0 then X0 else X1
theorem sel_side {σ : Nat} {X0 X1 : Cond} (hσ : σ < 2) (e0 : R.2.2.1 = sdOf X0) (e1 : R.2.2.2.1 = sdOf X1) : sideOf R σ = sdOf (sel σ X0 X1) := by
  unfold sideOf sel
  split
  · exact e0
  · exact e1
theorem sel_rS {σ : Nat} {X0 X1 : Cond} {T : List Cond} (hσ : σ < 2) (h0 : rS s T 0 X0) (h1 : rS s T 1 X1) : rS s T σ (sel σ X0 X1) := by
  unfold sel
  rcases (show σ = 0 ∨ σ = 1 by omega) with rfl | rfl
  · exact h0
  · exact h1
theorem sel_cn {σ : Nat} {X0 X1 : Cond} (h0 : cn X0 ∧ z0 X0 ≤ 30) (h1 : cn X1 ∧ z0 X1 ≤ 30) : cn (sel σ X0 X1) ∧ z0 (sel σ X0 X1) ≤ 30 := by
  unfold sel
  split
  · exact h0
  · exact h1
theorem r_like {σ : Nat} {i : Int32} {X0 X1 : Cond} (hR : simR s R I) (hI : ∀ k R', k < 2 → I k = some R' → rmB gD R') (hσ : σ < 2) (h0 : cn X0 ∧ z0 X0 ≤ 30 ∧ R.2.2.1 = sdOf X0) (h1 : cn X1 ∧ z0 X1 ≤ 30 ∧ R.2.2.2.1 = sdOf X1) : doR (yY L xs) (d + 10) 220 [.ref 186, .int (nI σ), .int i] s R I (some (lkAns (sel σ X0 X1) (sel (1 - σ) X0 X1) i)) R I := by
  intro K kk
  refine b_220_0 (r_isSide (fun _ _ _ => ?_) (fun hn => absurd rfl (hn σ hσ)))
  rw [rt_some]
  refine b_220_4 ?_
  rw [if_pos (by decide)]
  refine ⟨so_186, r_lay (d := d) hR hI h0.1 h0.2.1 h1.1 h1.2.1 h0.2.2 h1.2.2 (fun s1 T g1 g2 g3 g4 g5 g6 g7 => ?_)⟩
  rw [rt_none]
  have hS := sel_rS hσ g5 g6
  have hSo := sel_rS (σ := 1 - σ) (by omega) g5 g6
  have h31 := rS_31 hSo
  have fin := kk s1 g7 (fun i hi => ⟨g4.2.1 i (by omega) (by omega), by rw [g4.1]⟩)
  refine b_220_16 ⟨211, ⟨so_186, rm_186_35 g1.1⟩, 2, ?_⟩
  rw [one_sub hσ, nI_cl (show 1 - σ < 2147483648 by omega), hSo.1.2.2.1]
  refine ⟨⟨sa_211, inR_nI (by omega) (by decide)⟩, m_isIn0 (by omega) (fun t e ht => ?_) (fun q => ?_)⟩
  · rw [rt_some]
    subst e
    have hy := List.getElem?_eq_getElem ht
    generalize (tms (sel (1 - σ) X0 X1))[t] = y at hy
    obtain ⟨j, j1, j2⟩ := hSo.1.2.2.2 t y hy
    rw [lk_in h31 hy] at fin
    refine b_220_31 ?_
    rw [if_neg (by decide)]
    refine ⟨210, ⟨so_186, rm_186_34 g1.1⟩, 62, ?_⟩
    rw [one_sub hσ, nI_lit 31, nJ_mul, nJ_add, nI_cl (show 31 * (1 - σ) + t < 2147483648 by omega), j2]
    refine ⟨⟨sa_210, inR_nI (by omega) (by decide)⟩, so_186, r_termBy g1.1 (tb_nd g1) g2 hσ hS.1 j1 (fun hin => ?_) (fun hout => ?_)⟩
    · rw [rt_some]
      rw [if_pos hin] at fin
      exact b_220_52 fin
    · rw [rt_some]
      rw [if_neg hout] at fin
      exact b_220_52 fin
  · rw [rt_some]
    refine b_220_31 ?_
    rw [if_pos rfl]
    have : lkAns (sel σ X0 X1) (sel (1 - σ) X0 X1) i = -1 := if_pos q
    rw [this] at fin
    exact fin
theorem r_like_no {a i : Int32} (hR : simR s R I) (h : ∀ k, k < 2 → ¬ a = nI k) : doR (yY L xs) (d + 1) 220 [.ref 186, .int a, .int i] s R I (some (-1)) R I := by
  intro K kk
  refine b_220_0 (r_isSide (fun k hk e => absurd e (h k hk)) (fun _ => ?_))
  rw [rt_some]
  refine b_220_4 ?_
  rw [if_neg (fun q => q rfl)]
  exact kk s hR (fun _ _ => ⟨rfl, rfl⟩)
theorem pr_like (a i : Int32) : pairOK (yY L xs) (Sim gD) (d + 10) 122 220 [.ref 0, .int a, .int i] [.ref 186, .int a, .int i] true := by
  refine pair_of fun s R I hC hR hB hI => ?_
  rcases ex_or 2 a with ⟨σ, hσ, rfl⟩ | h
  · obtain ⟨X0, X1, h0, h1⟩ := both_X hB
    have s0 := sel_cn (σ := σ) ⟨h0.1, h0.2.1⟩ ⟨h1.1, h1.2.1⟩
    have s1 := sel_cn (σ := 1 - σ) ⟨h0.1, h0.2.1⟩ ⟨h1.1, h1.2.1⟩
    exact ⟨_, R, I, rfl, hB, hI, c_like (d := d + 6) hC hσ (sel_side hσ h0.2.2 h1.2.2) s0.1 s0.2 (sel_side (by omega) h0.2.2 h1.2.2) s1.1 s1.2, fun _ hR1 => r_like hR1 hI hσ h0 h1⟩
  · exact ⟨some (-1), R, I, rfl, hB, hI, c_like_no (d := d + 9) hC h, fun _ hR1 => r_like_no (d := d + 9) hR1 h⟩
/-- the tape is cleared -/
theorem simC_tape (hC : simC s R I) : simC (pV s 62 1 0) (rmT0 R R.2.1) I := by
  have o : ∀ z, z ≠ 62 → (pV s 62 1 0).1 z = s.1 z := fun z hz => by funext u; rw [pV_1, if_neg (by omega)]
  refine simC_mk hC hC.1 rfl (fun i a b => o i (by omega)) rfl (fun c0 c1 hcs hrm => ⟨⟨?_, fun j hj => absurd hj (Nat.not_lt_zero _)⟩, ?_, ?_, ?_, ?_⟩)
  · rw [pV_1, if_pos ⟨rfl, rfl⟩]; rfl
  · rw [o 61 (by decide)]; exact hrm.2.1
  · exact sdC_off hrm.2.2.1 (fun i a b => o i (by rcases hcs.2.2 with ⟨rfl, rfl⟩ | ⟨rfl, rfl⟩ <;> omega))
  · exact sdC_off hrm.2.2.2.1 (fun i a b => o i (by rcases hcs.2.2 with ⟨rfl, rfl⟩ | ⟨rfl, rfl⟩ <;> omega))
  · exact lnC_off hrm.2.2.2.2.2 (fun i a b => o i (by omega))
theorem c_hasFin {x : Int32} (hC : simC s R I) (kk : ∀ s', simC s' (rmT0 R R.2.1) I → (∀ i, (186 ≤ i ∨ i < 9 ∨ i = 26 ∨ i = 35) → s'.1 i = s.1 i ∧ s'.2 i = s.2 i) → K (some x) s') {x1 : Int32} (hx : x = 0 ∨ x = 1) : tT (yY L xs) (d + 1) 123 28 [.ref 0, .int x1, .null] [.int x] s K := by
  have hP := hC.1
  refine b_123_28 ⟨61, ⟨so_0, rp_0_8 hP⟩, 62, ⟨so_61, rp_61_0 hP⟩, so_62, x_clear so_62 ?_⟩
  rw [rt_none]
  exact b_123_39 ⟨hx, kk _ (simC_tape hC) (fun i hi => ⟨by funext u; rw [pV_1, if_neg (by omega)], rfl⟩)⟩
theorem c_has {σ : Nat} {X : Cond} (hC : simC s R I) (hB : rmB gD R) (hσ : σ < 2) (e : sideOf R σ = sdOf X) (cX : cn X) (zX : z0 X ≤ 30) : doC (yY L xs) (d + 3) 123 [.ref 0, .int (nI σ), .null] s R I (some (hsAns R X)) (rmT0 R R.2.1) I := by
  intro K kk
  have hP := hC.1
  obtain ⟨c, hc, hx⟩ := now_side (L := L) (xs := xs) hC hσ e cX zX
  have hlen := hB.1.1
  have hC0 := hC
  obtain ⟨-, ⟨c0, c1, hcs, hrm⟩, -⟩ := hC0
  have e62 : s.1 62 1 = nI R.1.1 := hrm.1.1
  refine b_123_0 (c_isSide (fun _ _ _ => ?_) (fun hn => absurd rfl (hn σ hσ)))
  rw [rt_some]
  refine b_123_4 ?_
  rw [if_neg (by decide)]
  have aft : ∀ b : Int32, (b = 0 ∨ b = 1) → hsAns R X = b → tT (yY L xs) (d + 1 + 1 + 1) 123 20 [.ref 0, .int (nI σ), .null] [.int b] s K := by
    intro b hb he
    rw [he] at kk
    refine b_123_20 ?_
    rcases hb with rfl | rfl
    · rw [if_pos rfl]
      exact b_123_27 (c_hasFin hC kk (Or.inl rfl))
    · rw [if_neg (by decide)]
      exact c_hasFin hC kk (Or.inr rfl)
  refine ⟨61, ⟨so_0, rp_0_8 hP⟩, 64, ⟨so_61, rp_61_1 hP⟩, 5, 2, c, ⟨sq_64, inR_nI hσ (by decide), by rw [nI_cl (by omega)]; exact hc⟩, so_0, ?_⟩
  refine b_148_0 ⟨61, ⟨so_0, rp_0_8 hP⟩, 62, ⟨so_61, rp_61_0 hP⟩, so_62, ?_⟩
  rw [e62]
  by_cases h30 : R.1.1 ≤ 30
  · rw [if_pos (by rw [nI_lit 30, nJ_le (by omega) (by omega)]; exact h30)]
    have eA : hsAns R X = bz (hsG (tms X) R.1.2 R.1.1 0 1) := if_neg (by omega)
    have loop : ∀ q i (S : Int32) (u5 : Value), q + i = R.1.1 → hsG (tms X) R.1.2 R.1.1 0 1 = hsG (tms X) R.1.2 q i S → tT (yY L xs) (d + 1 + 1) 148 24 [.ref 0, .ref c, .ref 62, .int S, .int (nI i), u5] [] s (fun r s1 => tT (yY L xs) (d + 1 + 1 + 1) 123 20 [.ref 0, .int (nI σ), .null] ((r.map Value.int).toList ++ []) s1 K) := by
      intro q
      induction q with
      | zero =>
        intro i S u5 hi hg
        refine b_148_24 ⟨so_62, ?_⟩
        rw [e62, if_pos (by rw [nJ_le (by omega) (by omega)]; omega)]
        refine ⟨hx.1.1, c_anyFull hx ?_⟩
        rw [rt_some]
        refine b_148_76 ⟨bz_01 _, ?_⟩
        rw [rt_some]
        exact aft _ (bz_01 _) (by rw [eA, hg]; rfl)
      | succ q ih =>
        intro i S u5 hi hg
        refine b_148_24 ⟨so_62, ?_⟩
        rw [e62, if_neg (by rw [nJ_le (by omega) (by omega)]; omega)]
        refine ⟨so_62, x_at_in (t := 62) (cap := 60) ⟨so_62, sa_63, rp_62_0 hP, by decide⟩ e62 hlen (show i < R.1.1 by omega) ?_⟩
        rw [rt_some, show s.1 (62 + 1) i = R.1.2 i from hrm.1.2 i (by omega)]
        refine b_148_39 ?_
        have hg2 : hsG (tms X) R.1.2 (q + 1) i S = match ltr (R.1.2 i) with
            | some x => hsG (tms X) R.1.2 q (i + 1) (pso (tms X) S x (tms X).length)
            | none => false := rfl
        cases hl : ltr (R.1.2 i) with
        | some x =>
          rw [hl] at hg2
          obtain ⟨l1, l2, -, -, l5, l6⟩ := ltr_some hl
          rw [if_neg l5, if_pos l6, l2]
          refine ⟨hx.1.1, c_partsOfSet hx l1 ?_⟩
          rw [rt_some]
          refine b_148_64 ?_
          rw [← nI_succ]
          exact ih (i + 1) _ _ (by omega) (hg.trans hg2)
        | none =>
          rw [hl] at hg2
          have hz : hsAns R X = 0 := by rw [eA, hg, hg2]; rfl
          have fin : tT (yY L xs) (d + 1 + 1 + 1) 123 20 [.ref 0, .int (nI σ), .null] (((some (0 : Int32)).map Value.int).toList ++ []) s K := by
            rw [rt_some]; exact aft 0 (Or.inl rfl) hz
          by_cases h1 : (R.1.2 i - 97) < 0
          · rw [if_pos h1]; exact fin
          · rw [if_neg h1, if_neg ((ltr_none hl).2.resolve_left h1)]; exact fin
    exact loop R.1.1 0 1 .null (by omega) rfl
  · rw [if_neg (by rw [nI_lit 30, nJ_le (by omega) (by omega)]; exact h30), rt_some]
    exact aft 0 (Or.inl rfl) (if_pos (by omega))
theorem c_has_no {a : Int32} (hC : simC s R I) (h : ∀ k, k < 2 → ¬ a = nI k) : doC (yY L xs) (d + 1) 123 [.ref 0, .int a, .null] s R I (some 0) (rmT0 R R.2.1) I := by
  intro K kk
  refine b_123_0 (c_isSide (fun k hk e => absurd e (h k hk)) (fun _ => ?_))
  rw [rt_some]
  refine b_123_4 ?_
  rw [if_pos rfl]
  exact b_123_27 (c_hasFin hC kk (Or.inl rfl))
theorem r_has_no {a : Int32} (hR : simR s R I) (hI : ∀ k R', k < 2 → I k = some R' → rmB gD R') (h : ∀ k, k < 2 → ¬ a = nI k) : doR (yY L xs) (d + 1) 221 [.ref 186, .int a, .null, .null, .null] s R I (some 0) (rmT0 R R.2.1) I := by
  intro K kk
  have o : ∀ z, z ≠ 186 → (pV s 186 3 0).1 z = s.1 z := fun z a => by funext u; rw [pV_1, if_neg (by omega)]
  refine b_221_0 ⟨so_186, so_186, r_isSide (fun k hk e => absurd e (h k hk)) (fun _ => ?_)⟩
  rw [rt_some]
  refine b_221_14 ?_
  rw [if_pos rfl]
  exact kk _ (r_sideMk hR hI rfl (fun z a b => o z (by omega)) (by rw [pV_1, if_pos ⟨rfl, rfl⟩]) (by rw [pV_1, if_neg (by omega)]; exact hR.2.2.1.2.2)) (fun i hi => ⟨o i (by omega), rfl⟩)
theorem r_has {σ : Nat} {X0 X1 : Cond} (hR : simR s R I) (hB : rmB gD R) (hI : ∀ k R', k < 2 → I k = some R' → rmB gD R') (hσ : σ < 2) (h0 : cn X0 ∧ z0 X0 ≤ 30 ∧ R.2.2.1 = sdOf X0) (h1 : cn X1 ∧ z0 X1 ≤ 30 ∧ R.2.2.2.1 = sdOf X1) : doR (yY L xs) (d + 10) 221 [.ref 186, .int (nI σ), .null, .null, .null] s R I (some (hsAns R (sel σ X0 X1))) (rmT0 R R.2.1) I := by
  intro K kk
  have hlen := hB.1.1
  obtain ⟨p1, p2, p3⟩ := hR.2.2.1
  have o : ∀ z, z ≠ 186 → (pV s 186 3 0).1 z = s.1 z := fun z a => by funext u; rw [pV_1, if_neg (by omega)]
  have hR1 : simR (pV s 186 3 0) (rmT0 R R.2.1) I := r_sideMk hR hI rfl (fun z a b => o z (by omega)) (by rw [pV_1, if_pos ⟨rfl, rfl⟩]) (by rw [pV_1, if_neg (by omega)]; exact p3)
  refine b_221_0 ⟨so_186, so_186, ?_⟩
  rw [p1]
  refine r_isSide (fun _ _ _ => ?_) (fun hn => absurd rfl (hn σ hσ))
  rw [rt_some]
  refine b_221_14 ?_
  rw [if_neg (by decide)]
  by_cases h30 : R.1.1 ≤ 30
  · rw [if_pos (by rw [nI_lit 30, nJ_le (by omega) (by omega)]; exact h30)]
    have eA : hsAns R (sel σ X0 X1) = bz (hsG (tms (sel σ X0 X1)) R.1.2 R.1.1 0 1) := if_neg (by omega)
    refine ⟨so_186, r_lay (d := d) hR1 hI h0.1 h0.2.1 h1.1 h1.2.1 h0.2.2 h1.2.2 (fun s1 T g1 g2 g3 g4 g5 g6 g7 => ?_)⟩
    rw [rt_none]
    have hS := sel_rS hσ g5 g6
    have e188 : ∀ j, j < R.1.1 → s1.1 188 j = R.1.2 j := fun j hj => by rw [g4.2.1 188 (by decide) (by decide), o 188 (by decide)]; exact p2 j hj
    have fin : ∀ b : Int32, hsAns R (sel σ X0 X1) = b → K (some b) s1 := fun b he => by
      rw [he] at kk
      exact kk s1 g7 (fun i hi => ⟨by rw [g4.2.1 i (by omega) (by omega), o i (by omega)], by rw [g4.1]; rfl⟩)
    have loop : ∀ q i (S : Int32), q + i = R.1.1 → hsG (tms (sel σ X0 X1)) R.1.2 R.1.1 0 1 = hsG (tms (sel σ X0 X1)) R.1.2 q i S → tT (yY L xs) (d + 9 + 1) 221 37 [.ref 186, .int (nI σ), .int (nI R.1.1), .int S, .int (nI i)] [] s1 K := by
      intro q
      induction q with
      | zero =>
        intro i S hi hg
        refine b_221_37 ?_
        rw [if_pos (by rw [nJ_le (by omega) (by omega)]; omega)]
        refine ⟨so_186, tt_mono (r_isFullSet (d := d) g1 g2 hS hσ ?_) (by omega) (fun _ _ q => q)⟩
        rw [rt_some]
        exact b_221_91 ⟨bz_01 _, fin _ (by rw [eA, hg]; rfl)⟩
      | succ q ih =>
        intro i S hi hg
        have hg2 : hsG (tms (sel σ X0 X1)) R.1.2 (q + 1) i S = match ltr (R.1.2 i) with
            | some x => hsG (tms (sel σ X0 X1)) R.1.2 q (i + 1) (pso (tms (sel σ X0 X1)) S x (tms (sel σ X0 X1)).length)
            | none => false := rfl
        refine b_221_37 ?_
        rw [if_neg (by rw [nJ_le (by omega) (by omega)]; omega)]
        refine ⟨188, ⟨so_186, rm_186_1 g1.1⟩, 60, ?_⟩
        rw [nI_cl (show i < 2147483648 by omega), e188 i (by omega)]
        refine ⟨⟨sa_188, inR_nI (by omega) (by decide)⟩, ?_⟩
        cases hl : ltr (R.1.2 i) with
        | some x =>
          rw [hl] at hg2
          obtain ⟨l1, l2, l3, l4, -, -⟩ := ltr_some hl
          refine m_isIn (fun _ _ => ?_) (fun q => q.elim (fun q => absurd q l3) (fun q => absurd q l4))
          rw [rt_some]
          refine b_221_57 ?_
          rw [if_pos (by decide)]
          refine ⟨188, ⟨so_186, rm_186_1 g1.1⟩, 60, ?_⟩
          rw [nI_cl (show i < 2147483648 by omega), e188 i (by omega), l2]
          refine ⟨⟨sa_188, inR_nI (by omega) (by decide)⟩, so_186, r_partsOf g1 hS hσ l1 ?_⟩
          rw [rt_some]
          refine b_221_78 ?_
          rw [← nI_succ]
          exact ih (i + 1) _ (by omega) (hg.trans hg2)
        | none =>
          rw [hl] at hg2
          refine m_isIn (fun q1 q2 => ?_) (fun _ => ?_)
          · exact ((ltr_none hl).1.elim (fun q => absurd q q1) (fun q => absurd q q2))
          · rw [rt_some]
            refine b_221_57 ?_
            rw [if_neg (fun q => q rfl)]
            exact fin 0 (by rw [eA, hg, hg2]; rfl)
    exact b_221_32 (loop R.1.1 0 1 (by omega) rfl)
  · rw [if_neg (by rw [nI_lit 30, nJ_le (by omega) (by omega)]; exact h30)]
    have : hsAns R (sel σ X0 X1) = 0 := if_pos (by omega)
    rw [this] at kk
    exact kk _ hR1 (fun i hi => ⟨o i (by omega), rfl⟩)
theorem pr_has (a : Int32) : pairOK (yY L xs) (Sim gD) (d + 10) 123 221 [.ref 0, .int a, .null] [.ref 186, .int a, .null, .null, .null] true := by
  refine pair_of fun s R I hC hR hB hI => ?_
  rcases ex_or 2 a with ⟨σ, hσ, rfl⟩ | h
  · obtain ⟨X0, X1, h0, h1⟩ := both_X hB
    have s0 := sel_cn (σ := σ) ⟨h0.1, h0.2.1⟩ ⟨h1.1, h1.2.1⟩
    exact ⟨_, _, I, rfl, rmB_T0 hB, hI, c_has (d := d + 7) hC hB hσ (sel_side hσ h0.2.2 h1.2.2) s0.1 s0.2, fun _ hR1 => r_has hR1 hB hI hσ h0 h1⟩
  · exact ⟨some 0, _, I, rfl, rmB_T0 hB, hI, c_has_no (d := d + 9) hC h, fun _ hR1 => r_has_no (d := d + 9) hR1 hI h⟩
end LH
