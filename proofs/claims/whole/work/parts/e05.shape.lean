section SH
variable {L : Nat} {xs : Nat → Int32} {d : Nat} {s : sT} {K : Option Int32 → sT → Prop} {R : rmT} {I : Nat → Option rmT}
theorem c_countOf {t cap : Nat} {l : List Int32} {b : Int32} (hx : tX (yY L xs) s.2 t cap) (ho : txO s.1 t l) (hc : l.length ≤ cap) (hK : K (some (nI (l.count b))) s) : tT (yY L xs) d 78 0 [.ref t, .int b, .null, .null] [] s K := by
  refine x_countOf hx ho.1 hc ?_
  rw [cnt_list ho.2]
  exact hK
theorem sh_in {X : Cond} {w : Int32} (h : ¬ w = 0 ∧ ¬ w = 1 ∧ ¬ w = 2 ∧ ¬ w = 3 ∧ ¬ w = 4 ∧ ¬ w = 5 ∧ ¬ w = 6 ∧ ¬ w = 7 ∧ ¬ w = 8) : shAns X w = byA (sp X 0) (w - 10) := by
  obtain ⟨h0, h1, h2, h3, h4, h5, h6, h7, h8⟩ := h
  unfold shAns
  rw [if_neg h0, if_neg h1, if_neg h2, if_neg h3, if_neg h4, if_neg h5, if_neg h6, if_neg h7, if_neg h8]
theorem sh_m1 {X : Cond} (cX : cn X) (zX : z0 X ≤ 30) : sh X = -1 ↔ X = S0 := by
  unfold sh
  by_cases h : X = S0
  · rw [if_pos h]; exact ⟨fun _ => h, fun _ => rfl⟩
  · rw [if_neg h]
    have := (sh_z cX).1
    exact ⟨fun e => absurd e (nI_ne_neg (by omega)), fun e => absurd e h⟩
theorem c_shape {σ : Nat} {w : Int32} {X : Cond} (hC : simC s R I) (hσ : σ < 2) (e : sideOf R σ = sdOf X) (cX : cn X) (zX : z0 X ≤ 30) : doC (yY L xs) (d + 3) 120 [.ref 0, .int (nI σ), .int w, .null] s R I (some (shAns X w)) R I := by
  intro K kk
  have hP := hC.1
  obtain ⟨c, hc, hx⟩ := now_side (L := L) (xs := xs) hC hσ e cX zX
  have h31 := sdX_31 hx
  have fin : K (some (shAns X w)) s := kk s hC (fun _ _ => ⟨rfl, rfl⟩)
  have q64 : isQ (yY L xs) 64 5 2 ∧ inR (nI σ) 2 ∧ s.2 64 (nI σ).toNatClampNeg = some c := ⟨sq_64, inR_nI hσ (by decide), by rw [nI_cl (by omega)]; exact hc⟩
  have hx1 := hx.1.2.2.1
  have ho : txO s.1 (c + 1) (sp X 0) := txO_of hx.2.1.1
  have hl30 : (sp X 0).length ≤ 30 := zX
  have hns := (sh_z cX).2.1
  have e7 : s.1 c 7 = sh X := hx.2.1.2.1.2.1
  have e8 : s.1 c 8 = nI (ns X) := hx.2.1.2.1.2.2.1
  refine b_120_0 (c_isSide (fun _ _ _ => ?_) (fun hn => absurd rfl (hn σ hσ)))
  rw [rt_some]
  refine b_120_4 ?_
  rw [if_pos (by decide)]
  refine ⟨61, ⟨so_0, rp_0_8 hP⟩, 64, ⟨so_61, rp_61_1 hP⟩, 5, 2, c, q64, fun ew => ?_, fun ew => ?_, fun ew => ?_, fun ew => ?_, fun ew => ?_, fun ew => ?_, fun ew => ?_, fun ew => ?_, fun ew => ?_, fun ew => ?_⟩
  · subst ew
    rw [sdX_6 hx]
    exact ⟨hx.1.1, fin⟩
  · subst ew
    refine ⟨hx.1.1, c_anyFull hx ?_⟩
    rw [rt_some]
    have eb : anyF (tms X) 1 = full X := anyF_bit (t := 0) h31 (tms_at0 cX zX)
    rw [eb]
    have e2 : shAns X 1 = bz (full X) := rfl
    rw [e2] at fin
    refine b_120_82 ?_
    cases hf : full X with
    | false => rw [if_pos (show bz false = 0 from rfl)]; rw [hf] at fin; exact fin
    | true => rw [if_neg (show ¬ bz true = 0 by decide)]; rw [hf] at fin; exact fin
  · subst ew
    refine ⟨c + 1, ⟨hx.1.1, hx.1.2.1.1⟩, hx1.1, ?_⟩
    rw [ho.1]
    exact fin
  · subst ew
    have e2 : shAns X 3 = nI ((sp X 0).count 97 + (sp X 0).count 98 + (sp X 0).count 99) := by rw [← lt_count]; rfl
    rw [e2] at fin
    have hr : s.2 c 0 = some (c + 1) := hx.1.2.1.1
    refine ⟨hx.1.1, b_48_0 (b_48_4 ?_)⟩
    rw [if_neg (by decide)]
    refine ⟨c + 1, ⟨hx.1.1, hr⟩, hx1.1, c_countOf hx1 ho hl30 ?_⟩
    rw [rt_some]
    refine b_48_21 (b_48_4 ?_)
    rw [if_neg (by decide)]
    refine ⟨c + 1, ⟨hx.1.1, hr⟩, hx1.1, c_countOf hx1 ho hl30 ?_⟩
    rw [rt_some]
    refine b_48_21 (b_48_4 ?_)
    rw [if_neg (by decide)]
    refine ⟨c + 1, ⟨hx.1.1, hr⟩, hx1.1, c_countOf hx1 ho hl30 ?_⟩
    rw [rt_some]
    refine b_48_21 (b_48_4 ?_)
    rw [if_pos (by decide), rt_some]
    refine b_120_103 ?_
    have ez : (0 : Int32) + nI ((sp X 0).count (97 + 0)) + nI ((sp X 0).count (97 + (0 + 1))) + nI ((sp X 0).count (97 + (0 + 1 + 1))) = nI ((sp X 0).count 97 + (sp X 0).count 98 + (sp X 0).count 99) := by
      rw [nI_lit 0, nJ_add, nJ_add, nJ_add, Nat.zero_add]; rfl
    rw [ez]
    exact fin
  · subst ew
    refine ⟨c + 1, ⟨hx.1.1, hx.1.2.1.1⟩, hx1.1, c_countOf hx1 ho hl30 ?_⟩
    rw [rt_some]
    exact b_120_113 fin
  · subst ew
    have e2 : shAns X 5 = bI (X = S0) := rfl
    rw [e2] at fin
    refine ⟨hx.1.1, ?_⟩
    rw [e7]
    by_cases h0 : X = S0
    · rw [if_neg (fun q => q ((sh_m1 cX zX).mpr h0))]
      rw [bI_t h0] at fin; exact fin
    · rw [if_pos (fun q => h0 ((sh_m1 cX zX).mp q))]
      rw [bI_f h0] at fin; exact fin
  · subst ew
    have e2 : shAns X 6 = bI (ns X = 0) := rfl
    rw [e2] at fin
    refine ⟨hx.1.1, ?_⟩
    rw [e8]
    by_cases h0 : ns X = 0
    · rw [if_neg (fun q => q (by rw [h0]; rfl))]
      rw [bI_t h0] at fin; exact fin
    · rw [if_pos (show ¬ nI (ns X) = 0 from fun q => h0 ((nJ_eq (b := 0) (by omega) (by decide)).mp q))]
      rw [bI_f h0] at fin; exact fin
  · subst ew
    rw [e7]
    exact ⟨hx.1.1, fin⟩
  · subst ew
    rw [e8]
    exact ⟨hx.1.1, fin⟩
  · rw [sh_in ew] at fin
    by_cases h10 : (10 : Int32) ≤ w
    · rw [if_pos h10]
      refine ⟨c + 1, ⟨hx.1.1, hx.1.2.1.1⟩, hx1.1, x_at hx1 ho.1 hl30 (fun k ek hk => ?_) (fun q => ?_)⟩
      · rw [rt_some]
        have hb := List.getElem?_eq_getElem hk
        rw [ek, by_in (by omega) hb] at fin
        rw [ho.2 k _ hb]
        exact b_120_172 fin
      · rw [rt_some]
        have : byA (sp X 0) (w - 10) = -1 := if_pos q
        rw [this] at fin
        exact b_120_172 fin
    · rw [if_neg h10]
      rw [by_low (by omega) (Int32.not_le.mp h10)] at fin
      exact b_120_172 fin
theorem c_shape_no {a w : Int32} (hC : simC s R I) (h : ∀ k, k < 2 → ¬ a = nI k) : doC (yY L xs) (d + 1) 120 [.ref 0, .int a, .int w, .null] s R I (some (-1)) R I := by
  intro K kk
  refine b_120_0 (c_isSide (fun k hk e => absurd e (h k hk)) (fun _ => ?_))
  rw [rt_some]
  refine b_120_4 ?_
  rw [if_neg (fun q => q rfl)]
  exact kk s hC (fun _ _ => ⟨rfl, rfl⟩)
theorem r_spelled3 {l : List Int32} (hM : rM s.2) (hl : l.length ≤ 600) (h30 : s.1 186 30 = nI l.length) (h207 : ∀ i c, l[i]? = some c → s.1 207 i = c) (hK : K (some (nI (l.countP isLt))) s) : tT (yY L xs) (d + 1) 216 0 [.ref 186, .int 3, .null, .null] [] s K := by
  have loop : ∀ q i, q + i = l.length → tT (yY L xs) (d + 1) 216 4 [.ref 186, .int 3, .int (nI ((l.take i).countP isLt)), .int (nI i)] [] s K := by
    intro q
    induction q with
    | zero =>
      intro i hi
      refine b_216_4 ⟨so_186, ?_⟩
      rw [h30, if_pos (by rw [nJ_le (by omega) (by omega)]; omega), show i = l.length by omega, List.take_length]
      exact hK
    | succ q ih =>
      intro i hi
      have hi' : i < l.length := by omega
      have hb := List.getElem?_eq_getElem hi'
      have e := ih (i + 1) (by omega)
      rw [List.take_succ_eq_append_getElem hi', List.countP_append, nI_succ i] at e
      refine b_216_4 ⟨so_186, ?_⟩
      rw [h30, if_neg (by rw [nJ_le (by omega) (by omega)]; omega), if_neg (fun q => q rfl)]
      refine ⟨207, ⟨so_186, rm_186_28 hM⟩, 600, ⟨sa_207, inR_nI (by omega) (by decide)⟩, ?_⟩
      rw [nI_cl (by omega), h207 i _ hb]
      refine m_isIn (fun h1 h2 => ?_) (fun q => ?_)
      · rw [rt_some]
        refine b_216_31 ?_
        rw [if_neg (by decide)]
        refine b_216_58 ?_
        have ep : [l[i]].countP isLt = 1 := by
          have : isLt l[i] = true := decide_eq_true (abc_of h1 h2)
          rw [List.countP_cons, this]; rfl
        rw [ep, nI_succ] at e
        exact e
      · rw [rt_some]
        refine b_216_31 ?_
        rw [if_pos rfl]
        refine b_216_58 ?_
        have ep : [l[i]].countP isLt = 0 := by
          have : isLt l[i] = false := decide_eq_false (fun h => by
            rcases q with q | q
            · rcases h with h | h | h <;> rw [h] at q <;> exact absurd q (by decide)
            · rcases h with h | h | h <;> rw [h] at q <;> exact absurd q (by decide))
          rw [List.countP_cons, this]; rfl
        rw [ep, Nat.add_zero] at e
        rw [Int32.add_zero]
        exact e
  exact b_216_0 (loop l.length 0 (by omega))
theorem r_spelled4 {l : List Int32} (hM : rM s.2) (hl : l.length ≤ 600) (h30 : s.1 186 30 = nI l.length) (h207 : ∀ i c, l[i]? = some c → s.1 207 i = c) (hK : K (some (nI (l.count 42))) s) : tT (yY L xs) (d + 1) 216 0 [.ref 186, .int 4, .null, .null] [] s K := by
  have loop : ∀ q i, q + i = l.length → tT (yY L xs) (d + 1) 216 4 [.ref 186, .int 4, .int (nI ((l.take i).count 42)), .int (nI i)] [] s K := by
    intro q
    induction q with
    | zero =>
      intro i hi
      refine b_216_4 ⟨so_186, ?_⟩
      rw [h30, if_pos (by rw [nJ_le (by omega) (by omega)]; omega), show i = l.length by omega, List.take_length]
      exact hK
    | succ q ih =>
      intro i hi
      have hi' : i < l.length := by omega
      have hb := List.getElem?_eq_getElem hi'
      have e := ih (i + 1) (by omega)
      rw [List.take_succ_eq_append_getElem hi', List.count_append, nI_succ i, List.count_singleton] at e
      refine b_216_4 ⟨so_186, ?_⟩
      rw [h30, if_neg (by rw [nJ_le (by omega) (by omega)]; omega), if_pos (by decide)]
      refine ⟨207, ⟨so_186, rm_186_28 hM⟩, 600, ⟨sa_207, inR_nI (by omega) (by decide)⟩, ?_⟩
      rw [nI_cl (by omega), h207 i _ hb]
      by_cases e42 : l[i] = 42
      · rw [if_neg (fun q => q e42)]
        refine b_216_58 ?_
        have ep : (if (l[i] == 42) = true then 1 else 0) = 1 := by rw [e42]; rfl
        rw [ep, nI_succ] at e
        exact e
      · rw [if_pos e42]
        refine b_216_58 ?_
        have ep : (if (l[i] == 42) = true then 1 else 0) = 0 := by simp [e42]
        rw [ep, Nat.add_zero] at e
        rw [Int32.add_zero]
        exact e
  exact b_216_0 (loop l.length 0 (by omega))
theorem r_shape {σ : Nat} {w : Int32} {X0 X1 : Cond} (hR : simR s R I) (hI : ∀ k R', k < 2 → I k = some R' → rmB gD R') (hσ : σ < 2) (h0 : cn X0 ∧ z0 X0 ≤ 30 ∧ R.2.2.1 = sdOf X0) (h1 : cn X1 ∧ z0 X1 ≤ 30 ∧ R.2.2.2.1 = sdOf X1) : doR (yY L xs) (d + 10) 218 [.ref 186, .int (nI σ), .int w, .null] s R I (some (shAns (sel σ X0 X1) w)) R I := by
  intro K kk
  have hsc := sel_cn (σ := σ) ⟨h0.1, h0.2.1⟩ ⟨h1.1, h1.2.1⟩
  refine b_218_0 (r_isSide (fun _ _ _ => ?_) (fun hn => absurd rfl (hn σ hσ)))
  rw [rt_some]
  refine b_218_4 ?_
  rw [if_pos (by decide)]
  refine ⟨so_186, r_lay (d := d) hR hI h0.1 h0.2.1 h1.1 h1.2.1 h0.2.2 h1.2.2 (fun s1 T g1 g2 g3 g4 g5 g6 g7 => ?_)⟩
  rw [rt_none]
  have hS := sel_rS hσ g5 g6
  generalize sel σ X0 X1 = X at hS kk hsc
  have h31 := rS_31 hS
  obtain ⟨j, j1, j2⟩ := hS.1.2.2.2 0 X (tms_at0 hsc.1 hsc.2)
  have hjl := (List.getElem?_eq_some_iff.mp j1).1
  refine b_218_16 ⟨210, ⟨so_186, rm_186_34 g1.1⟩, 62, ?_⟩
  rw [nI_lit 31, nJ_mul, nI_cl (show 31 * σ < 2147483648 by omega), show s1.1 210 (31 * σ) = nI j from j2]
  refine ⟨⟨sa_210, inR_nI (by omega) (by decide)⟩, so_186, tt_mono (r_spells (d := d) g1 g2 g3 j1 (fun s2 q1 q2 q3 => ?_)) (by omega) (fun _ _ q => q)⟩
  rw [rt_none]
  have hR2 := sp_simR g7 hI q1
  have t2 := sp_tb g1 q1
  have hS2 := sp_rS hS q1.2.1
  have hl600 : (sp X 0).length ≤ 600 := by have := hsc.2; show z0 X ≤ 600; omega
  have hl30 : (sp X 0).length ≤ 30 := hsc.2
  obtain ⟨off, hN⟩ := t2.2.1
  obtain ⟨⟨-, -, -, n4, n5, n6, -, -⟩, -⟩ := hN.2.2.2.2.2 j X j1
  have inj : inR (nI j) 1500 := inR_nI (by omega) (by decide)
  have cj : (nI j).toNatClampNeg = j := nI_cl (by omega)
  have fin := kk s2 hR2 (fun i hi => ⟨by rw [q1.2.1 i (by omega) (by omega) (by omega), g4.2.1 i (by omega) (by omega)], by rw [q1.1, g4.1]⟩)
  have ej0 : j = 0 ↔ X = S0 := by
    constructor
    · intro e; subst e
      have := tbA5 t2 0 (by decide)
      rw [j1] at this; exact Option.some.inj this
    · intro e
      rw [e] at j1
      exact (List.getElem?_inj hjl (tb_nd t2)).mp (j1.trans (tbA5 t2 0 (by decide)).symm)
  refine b_218_31 ⟨fun ew => ?_, fun ew => ?_, fun ew => ?_, fun ew => ?_, fun ew => ?_, fun ew => ?_, fun ew => ?_, fun ew => ?_, fun ew => ?_, fun ew => ?_⟩
  · subst ew
    refine ⟨211, ⟨so_186, rm_186_35 t2.1⟩, 2, ⟨sa_211, inR_nI hσ (by decide)⟩, ?_⟩
    rw [nI_cl (by omega), hS2.1.2.2.1]
    exact fin
  · subst ew
    refine ⟨196, ⟨so_186, rm_186_11 t2.1⟩, 1500, ⟨sa_196, inj⟩, ?_⟩
    rw [cj, n6]
    have e2 : shAns X 1 = bz (full X) := rfl
    rw [e2] at fin
    cases hf : full X with
    | false => rw [if_pos (show bz false = 0 from rfl)]; rw [hf] at fin; exact fin
    | true => rw [if_neg (show ¬ bz true = 0 by decide)]; rw [hf] at fin; exact fin
  · subst ew
    rw [q2]
    exact ⟨so_186, fin⟩
  · subst ew
    refine ⟨so_186, tt_mono (r_spelled3 (d := d) (l := sp X 0) t2.1 hl600 q2 q3 ?_) (by omega) (fun _ _ q => q)⟩
    rw [rt_some]
    exact b_218_116 fin
  · subst ew
    refine ⟨so_186, tt_mono (r_spelled4 (d := d) (l := sp X 0) t2.1 hl600 q2 q3 ?_) (by omega) (fun _ _ q => q)⟩
    rw [rt_some]
    exact b_218_122 fin
  · subst ew
    have e2 : shAns X 5 = bI (X = S0) := rfl
    rw [e2] at fin
    by_cases hx0 : X = S0
    · rw [if_neg (fun q => q (by rw [ej0.mpr hx0]; rfl))]
      rw [bI_t hx0] at fin; exact fin
    · rw [if_pos (show ¬ nI j = 0 from fun q => hx0 (ej0.mp ((nJ_eq (b := 0) (by omega) (by decide)).mp q)))]
      rw [bI_f hx0] at fin; exact fin
  · subst ew
    have e2 : shAns X 6 = bI (ns X = 0) := rfl
    rw [e2] at fin
    refine ⟨so_186, tt_mono (r_spelled4 (d := d) (l := sp X 0) t2.1 hl600 q2 q3 ?_) (by omega) (fun _ _ q => q)⟩
    rw [rt_some]
    refine b_218_138 ?_
    have h42 := ns_42 hsc.1 0
    have hcl := List.count_le_length (a := (42 : Int32)) (l := sp X 0)
    by_cases hn : ns X = 0
    · rw [if_neg (fun q => q (by rw [h42.mpr hn]; rfl))]
      rw [bI_t hn] at fin; exact fin
    · rw [if_pos (show ¬ nI ((sp X 0).count 42) = 0 from fun q => hn (h42.mp ((nJ_eq (b := 0) (by omega) (by decide)).mp q)))]
      rw [bI_f hn] at fin; exact fin
  · subst ew
    refine ⟨193, ⟨so_186, rm_186_8 t2.1⟩, 1500, ⟨sa_193, inj⟩, ?_⟩
    rw [cj, n4]
    exact fin
  · subst ew
    refine ⟨194, ⟨so_186, rm_186_9 t2.1⟩, 1500, ⟨sa_194, inj⟩, ?_⟩
    rw [cj, n5]
    exact fin
  · rw [sh_in ew] at fin
    refine ⟨so_186, tt_mono (r_byteAt (d := d) (l := sp X 0) t2.1 hl600 q2 q3 ?_) (by omega) (fun _ _ q => q)⟩
    rw [rt_some]
    exact b_218_169 fin
theorem r_shape_no {a w : Int32} (hR : simR s R I) (h : ∀ k, k < 2 → ¬ a = nI k) : doR (yY L xs) (d + 1) 218 [.ref 186, .int a, .int w, .null] s R I (some (-1)) R I := by
  intro K kk
  refine b_218_0 (r_isSide (fun k hk e => absurd e (h k hk)) (fun _ => ?_))
  rw [rt_some]
  refine b_218_4 ?_
  rw [if_neg (fun q => q rfl)]
  exact kk s hR (fun _ _ => ⟨rfl, rfl⟩)
theorem pr_shape (a w : Int32) : pairOK (yY L xs) (Sim gD) (d + 10) 120 218 [.ref 0, .int a, .int w, .null] [.ref 186, .int a, .int w, .null] true := by
  refine pair_of fun s R I hC hR hB hI => ?_
  rcases ex_or 2 a with ⟨σ, hσ, rfl⟩ | h
  · obtain ⟨X0, X1, h0, h1⟩ := both_X hB
    have s0 := sel_cn (σ := σ) ⟨h0.1, h0.2.1⟩ ⟨h1.1, h1.2.1⟩
    exact ⟨_, R, I, rfl, hB, hI, c_shape (d := d + 7) hC hσ (sel_side hσ h0.2.2 h1.2.2) s0.1 s0.2, fun _ hR1 => r_shape hR1 hI hσ h0 h1⟩
  · exact ⟨some (-1), R, I, rfl, hB, hI, c_shape_no (d := d + 9) hC h, fun _ hR1 => r_shape_no (d := d + 9) hR1 h⟩
end SH
