/-! THE TERMS OF A SHAPE, BY THE CLASS -/
theorem dth_or {a b : Cond} : dth a ≤ dth (.or a b) ∧ dth b ≤ dth (.or a b) := by
  show dth a ≤ max (dth a + 1) (if isSum b = true then dth b else dth b + 1) ∧ dth b ≤ max (dth a + 1) (if isSum b = true then dth b else dth b + 1)
  split <;> omega
theorem dth_and {a b : Cond} : dth a ≤ dth (.and a b) ∧ dth b ≤ dth (.and a b) := by
  show dth a ≤ max (dth a + 1) (if isProd b = true then dth b else dth b + 1) ∧ dth b ≤ max (dth a + 1) (if isProd b = true then dth b else dth b + 1)
  split <;> omega
theorem dth_prodL {x : Cond} (cx : cn x) : ∀ f ∈ prodL x, dth f ≤ dth x := by
  intro f hf
  cases h : isProd x with
  | true =>
    have hc : f ∈ chl x := by
      cases x with
      | and a b => exact hf
      | _ => cases h
    have := dth_chl cx f hc
    omega
  | false =>
    by_cases h1 : x = S1
    · rw [h1, prodL_S1] at hf; cases hf
    · rw [prodL_one h h1] at hf
      rw [List.mem_singleton.mp hf]
      exact Nat.le_refl _
/-- factors of terms are no deeper than the shape, and few -/
theorem dp_fac : ∀ {x : Cond}, cn x → ∀ y ∈ dp x, (∀ f ∈ prodL y, dth f ≤ dth x) ∧ (prodL y).length ≤ z0 x := by
  intro x
  induction x with
  | count k =>
    intro h y hy
    have : y ∈ (if 2 ≤ k then [S1] else []) := hy
    split at this
    · rw [List.mem_singleton.mp this, prodL_S1]
      exact ⟨(fun f hf => by cases hf), Nat.zero_le _⟩
    · cases this
  | or a b iha ihb =>
    intro h y hy
    have hd := dth_or (a := a) (b := b)
    rw [(z_or a b).1]
    rcases List.mem_append.mp (show y ∈ dp a ++ dp b from hy) with q | q
    · have := iha h.1 y q
      exact ⟨fun f hf => Nat.le_trans (this.1 f hf) hd.1, by omega⟩
    · have := ihb h.2.2.2.1 y q
      exact ⟨fun f hf => Nat.le_trans (this.1 f hf) hd.2, by omega⟩
  | and a b iha ihb =>
    intro h y hy
    have hd := dth_and (a := a) (b := b)
    have za := z01 h.1
    have zb := z01 h.2.2.2.2.1
    rw [(z_and a b).1]
    rcases List.mem_append.mp (show y ∈ (dp a).map (fun y => pj y b) ++ dp b from hy) with q | q
    · obtain ⟨u, hu, rfl⟩ := List.mem_map.mp q
      have hc := dp_cn h.1 u hu
      have hL := (pj_L hc.1 hc.2 h.2.2.2.2.1 h.2.2.2.2.2.1).1
      have := iha h.1 u hu
      have hpb := (sh_z h.2.2.2.2.1).2.2.2
      rw [hL]
      refine ⟨fun f hf => ?_, by rw [List.length_append]; omega⟩
      rcases List.mem_append.mp hf with w | w
      · exact Nat.le_trans (this.1 f w) hd.1
      · exact Nat.le_trans (dth_prodL h.2.2.2.2.1 f w) hd.2
    · have := ihb h.2.2.2.2.1 y q
      exact ⟨fun f hf => Nat.le_trans (this.1 f hf) hd.2, by omega⟩
  | not a iha =>
    intro h y hy
    obtain ⟨u, hu, rfl⟩ := List.mem_map.mp (show y ∈ (dp a).map (fun y => pj y (.not a)) from hy)
    have hc := dp_cn h.1 u hu
    have hL := (pj_L hc.1 hc.2 (y := .not a) h (by intro e; cases e)).1
    have := iha h.1 u hu
    have z12a := z12 h.1
    have z01a := z01 h.1
    rw [hL, prodL_one (x := .not a) rfl (by intro e; cases e), (z_not a).1]
    refine ⟨fun f hf => ?_, by rw [List.length_append, List.length_singleton]; omega⟩
    rcases List.mem_append.mp hf with w | w
    · have := this.1 f w
      show _ ≤ dth a + 1
      omega
    · rw [List.mem_singleton.mp w]; exact Nat.le_refl _
  | _ => intro h; exact h.elim
/-- what is known of terms -/
theorem tms_fac {X z : Cond} (cX : cn X) (hX : z0 X ≤ 30) (hz : z ∈ tms X) : cn z ∧ (∀ f ∈ prodL z, dth f ≤ 40) ∧ (prodL z).length ≤ 30 ∧ z1 z ≤ 136 := by
  have hl := lts_30 hX
  have hd := dth_z cX
  have h1 := tms_cn cX (by omega) hz
  rcases (tms_all cX (by omega)).2.1 z hz with rfl | q
  · have := (sh_z h1).2.2.2
    have := z12 h1
    exact ⟨h1, fun f hf => by have := dth_prodL h1 f hf; omega, by omega, by omega⟩
  · have := dp_fac cX z q
    have := dp_136 cX hX q
    exact ⟨h1, fun f hf => by have := (dp_fac cX z q).1 f hf; omega, by omega, this⟩
theorem tmG_pre : ∀ (f k : Nat) (T : List Cond), ∃ e, tmG f k T = T ++ e
  | 0, k, T => ⟨[], (List.append_nil _).symm⟩
  | f + 1, k, T => by
    unfold tmG
    cases T[k]? with
    | none => exact ⟨[], (List.append_nil _).symm⟩
    | some y =>
      obtain ⟨e1, h1⟩ := tmG_pre f (k + 1) (tst T y)
      obtain ⟨e2, h2⟩ := tst_pre T y
      exact ⟨e2 ++ e1, by show tmG f (k + 1) (tst T y) = _; rw [h1, h2, List.append_assoc]⟩
theorem one_list : ∀ {l : List Cond} {i : Nat} (h : i < l.length), l.length = 1 → l = [l[i]]
  | [x], 0, _, _ => rfl
  | [x], i + 1, h, _ => absurd h (by rw [List.length_singleton]; omega)
  | [], i, h, _ => absurd h (Nat.not_lt_zero _)
  | x :: y :: l, i, _, h => absurd h (by rw [List.length_cons, List.length_cons]; omega)
theorem catT_app (A B : List Cond) : catT (A ++ B) = catT A ++ catT B := List.flatMap_append
theorem catT_take {F : List Cond} {k : Nat} {y : Cond} (h : F[k]? = some y) : catT (F.take (k + 1)) = catT (F.take k) ++ sp y 0 := by
  have hk := (List.getElem?_eq_some_iff.mp h).1
  rw [List.take_succ_eq_append_getElem hk, catT_app]
  rw [List.getElem?_eq_getElem hk] at h
  cases h
  show _ = _
  congr 1
  show List.flatMap _ [_] = _
  rw [List.flatMap_cons, List.flatMap_nil, List.append_nil]
section TE
variable {L : Nat} {xs : Nat → Int32} {d : Nat} {s : sT} {K : Option Int32 → sT → Prop} {T : List Cond} {p c : Nat} {F A : List Cond}
theorem sdK_ge {Y : sY} {ρ : Nat → Nat → Option Nat} (h : sdK Y ρ c) : tX Y ρ (c + 3) 4960 := h.2.2.2.1
/-- a term is told -/
theorem c_tellTerm {k : Nat} {y : Cond} (hc : 19 ≤ c) (h : tc s T p) (ht : tfO s.1 T A) (hK : sdK (yY L xs) s.2 c) (hk : A[k]? = some y) (hkF : F[k]? = some y) (hb : sb s.1 c F k (3 * k)) (h6 : s.1 c 6 = nI k) (h31 : k < 31) (hfac : (∀ f ∈ prodL y, dth f ≤ 40) ∧ (prodL y).length ≤ 30 ∧ z1 y ≤ 136) (hcat : (catT (F.take (k + 1))).length ≤ 4960)
    (hh : ∀ s', sb s'.1 c F (k + 1) (3 * k) → s'.2 = s.2 → (∀ z, z ≠ c → z ≠ c + 3 → z ≠ c + 4 → z ≠ c + 5 → s'.1 z = s.1 z) → (∀ i, i ≠ 9 → s'.1 c i = s.1 c i) → K none s') : tT (yY L xs) (d + 85) 62 0 [.ref 12, .int (nI k), .ref c, .null, .null, .null, .null] [] s K := by
  have hP := h.1
  have cy := ht.2.2.2.1 y (List.mem_of_getElem? hk)
  obtain ⟨n1, n2, n3⟩ := ht.2.2.2.2 k y hk
  have hx3 := hK.2.2.2.1
  have ecat := catT_take hkF
  have hlen : (catT (F.take (k + 1))).length = (catT (F.take k)).length + (sp y 0).length := by rw [ecat, List.length_append]
  have o0 := hb.2.1
  -- the end
  have fin : ∀ (s1 : sT) (x5 : Int32) (u6 : Value), fX s s1 (c + 3) → txO s1.1 (c + 3) (catT (F.take (k + 1))) → tT (yY L xs) (d + 84) 40 0 [.ref c, .int (bz (full y))] [] s1 (fun r s2 => tT (yY L xs) (d + 85) 62 109 [.ref 12, .int (nI k), .ref c, .int (nI (prodL y).length), .int (bz (full y)), .int x5, u6] ((r.map Value.int).toList ++ []) s2 K) := by
    intro s1 x5 u6 f1 f2
    have e6 : s1.1 c 6 = nI k := by rw [f1.2.1 c (by omega) (by omega)]; exact h6
    have e9 : s1.1 c 9 = fulM F k := by rw [f1.2.1 c (by omega) (by omega)]; exact hb.1
    have hK1 : sdK (yY L xs) s1.2 c := by rw [f1.1]; exact hK
    obtain ⟨k1, ⟨-, k2, k3, -, -, -⟩, -, kx, k9, -⟩ := hK1
    -- what the end says of the side
    have done : ∀ s2 : sT, s2.2 = s1.2 → (∀ z t, s2.1 z t = if z = c ∧ t = 9 then fulM F (k + 1) else if z = c + 5 ∧ t = k then nI (catT (F.take (k + 1))).length else s1.1 z t) → tT (yY L xs) (d + 85) 62 109 [.ref 12, .int (nI k), .ref c, .int (nI (prodL y).length), .int (bz (full y)), .int x5, u6] [] s2 K := by
      intro s2 g1 g2
      obtain ⟨a1, a2, a4, a5, a6, a7⟩ := hb
      have ff : ∀ z, z ≠ c + 3 → z ≠ c + 4 → s1.1 z = s.1 z := fun z h1 h2 => f1.2.1 z h1 h2
      refine b_62_109 (hh s2 ⟨by rw [g2, if_pos ⟨rfl, rfl⟩], ⟨?_, fun i x hx => ?_⟩, fun i hi => ?_, fun i hi => ?_, fun i hi => ?_, fun i hi => ?_⟩ (g1.trans f1.1) (fun z h1 h2 h3 h4 => ?_) (fun i hi => ?_))
      · rw [g2, if_neg (by omega), if_neg (by omega)]; exact f2.1
      · rw [g2, if_neg (by omega), if_neg (by omega)]; exact f2.2 i x hx
      · rw [g2, if_neg (by omega)]
        by_cases e : i = k
        · rw [if_pos ⟨rfl, e⟩, e]
        · rw [if_neg (by omega), ff _ (by omega) (by omega)]; exact a4 i (by omega)
      · rw [g2, if_neg (by omega), if_neg (by omega), ff _ (by omega) (by omega)]; exact a5 i hi
      · rw [g2, if_neg (by omega), if_neg (by omega), ff _ (by omega) (by omega)]; exact a6 i hi
      · rw [g2, if_neg (by omega), if_neg (by omega), ff _ (by omega) (by omega)]; exact a7 i hi
      · funext t; rw [g2, if_neg (by omega), if_neg (by omega), ff _ (by omega) (by omega)]
      · rw [g2, if_neg (by omega), if_neg (by omega), ff _ (by omega) (by omega)]
    have efu : fulM F (k + 1) = if full y = true then fulM F k ||| bitI k else fulM F k := by
      show (if full (F.getD k S0) = true then _ else _) = _
      rw [List.getD_eq_getElem?_getD, hkF]; rfl
    refine b_40_0 ⟨c + 5, ⟨k1, k3⟩, k1, c + 3, ⟨k1, k2⟩, kx.1, 31, ?_⟩
    rw [e6, nI_cl (by omega), f2.1]
    refine ⟨⟨k9, inR_nI h31 (by decide)⟩, ?_⟩
    cases hf : full y with
    | false =>
      rw [if_pos (show bz false = 0 from rfl), rt_none]
      rw [hf, if_neg (by decide)] at efu
      rw [hf] at done
      refine done _ rfl (fun z t => ?_)
      rw [pV_1, efu]
      by_cases e1 : z = c ∧ t = 9
      · rw [if_pos e1, if_neg (by omega), e1.1, e1.2]; exact e9
      · rw [if_neg e1]
    | true =>
      rw [if_neg (show ¬ bz true = 0 by decide)]
      refine ⟨k1, k1, k1, ?_⟩
      rw [rt_none]
      rw [hf, if_pos rfl] at efu
      rw [hf] at done
      refine done _ rfl (fun z t => ?_)
      rw [pV_1, efu]
      by_cases e1 : z = c ∧ t = 9
      · rw [if_pos e1, if_pos e1, pV_1, if_neg (by omega), pV_1, if_neg (by omega), e9, e6]; rfl
      · rw [if_neg e1, if_neg e1, pV_1]
  -- the factors
  have loop : ∀ q i (s1 : sT) (u6 : Value), q + i = (prodL y).length → fX s s1 (c + 3) → txO s1.1 (c + 3) (catT (F.take k) ++ if (prodL y).length = 0 then [49] else if (prodL y).length = 1 then (if i = 0 then [] else sp y 0) else jP ((prodL y).take i)) → tT (yY L xs) (d + 85) 62 30 [.ref 12, .int (nI k), .ref c, .int (nI (prodL y).length), .int (bz (acF 4 (prodL y) i)), .int (nI i), u6] [] s1 K := by
    intro q
    induction q with
    | zero =>
      intro i s1 u6 hi f1 f2
      have ei : i = (prodL y).length := by omega
      subst ei
      refine b_62_30 ?_
      rw [if_pos (Int32.le_refl _), (ac_prod cy).2.2]
      refine ⟨hK.1, fin s1 _ u6 f1 ?_⟩
      rw [ecat]
      by_cases h0 : (prodL y).length = 0
      · rw [if_pos h0] at f2
        have e1 : prodL y = [] := List.length_eq_zero_iff.mp h0
        have e2 : y = S1 := by rw [← mkP_prodL cy, e1]; rfl
        rw [e2]; exact f2
      · rw [if_neg h0] at f2
        by_cases h1 : (prodL y).length = 1
        · rw [if_pos h1, if_neg h0] at f2; exact f2
        · rw [if_neg h1, List.take_length] at f2
          have y1 : y ≠ S1 := fun e => h0 (by rw [e, prodL_S1]; rfl)
          rw [jP_prodL cy y1] at f2
          have : isSum y = false := by
            cases y with
            | or a b => exact absurd rfl h1
            | _ => rfl
          rw [sp_01 this]; exact f2
    | succ q ih =>
      intro i s1 u6 hi f1 f2
      have hi' : i < (prodL y).length := by omega
      have hP1 : rP s1.2 := by rw [f1.1]; exact hP
      obtain ⟨j, j1, j2⟩ := n3 i _ (List.getElem?_eq_getElem hi')
      have hfm : (prodL y)[i] ∈ prodL y := List.getElem_mem _
      have hfd := hfac.1 _ hfm
      have t1 := tc_fX h f1 (by omega)
      have cf := tc_cn t1 j1
      have zf : z1 (prodL y)[i] ≤ z1 y := by
        have h1 := zs_prodL cy
        obtain ⟨l1, l2, e⟩ := List.append_of_mem hfm
        rw [e, zs_app] at h1
        have : zs l1 + (z1 (prodL y)[i] + zs l2) ≤ z1 y := h1
        omega
      have z01f := z01 cf
      have hsh := sh_z cf
      have e13 : s1.1 13 (k * 64 + i) = nI j := by rw [f1.2.1 13 (by omega) (by omega)]; exact j2
      have egd : (prodL y).getD i S0 = (prodL y)[i] := by rw [List.getD_eq_getElem?_getD, List.getElem?_eq_getElem hi']; rfl
      have hne0 : (prodL y).length ≠ 0 := by omega
      -- behind its fullness
      have aft : ∀ b : Bool, b = acF 4 (prodL y) (i + 1) → tT (yY L xs) (d + 85) 62 72 [.ref 12, .int (nI k), .ref c, .int (nI (prodL y).length), .int (bz (acF 4 (prodL y) i)), .int (nI i), .int (nI j)] [.int (bz b)] s1 K := by
        intro b hbb
        refine b_62_72 ⟨1, ⟨so_12, rp_12_0 hP1⟩, ?_⟩
        rw [if_neg hne0] at f2
        have sizes : (sp y 0).length ≤ 4960 - (catT (F.take k)).length ∧ (catT (F.take k)).length ≤ 4960 := by omega
        by_cases h1 : (prodL y).length = 1
        · rw [if_neg (show ¬ ¬ nI (prodL y).length = 1 from fun q => q (by rw [h1]; rfl))]
          have i0 : i = 0 := by omega
          rw [if_pos h1, if_pos i0, List.append_nil] at f2
          have ey : (prodL y)[i] = y := by
            have : prodL y = [(prodL y)[i]] := one_list hi' h1
            have e2 := mkP_prodL cy
            have e3 := congrArg mkP this
            exact e3.symm.trans e2
          have hfd' : dth y ≤ 40 := by rw [← ey]; exact hfd
          rw [ey] at j1
          refine b_62_90 ⟨c + 3, ⟨hK.1, by rw [f1.1]; exact hK.2.1.2.1⟩, so_1, c_spell (d := d) (pl := 0) (by omega) t1 (by rw [f1.1]; exact hx3) f2 j1 hfd' (by decide) (by omega) (fun s2 w1 w2 => ?_)⟩
          rw [rt_none]
          refine b_62_97 ?_
          rw [← nI_succ]
          have := ih (i + 1) s2 (.int (nI j)) (by omega) (fX_trans f1 w2) (by rw [if_neg hne0, if_pos h1, if_neg (by omega)]; exact w1)
          rw [← hbb] at this
          exact this
        · rw [if_pos (show ¬ nI (prodL y).length = 1 from fun e => h1 ((nJ_eq (b := 1) (by omega) (by decide)).mp e))]
          rw [if_neg h1] at f2
          have et : (prodL y).take (i + 1) = (prodL y).take i ++ [(prodL y)[i]] := List.take_succ_eq_append_getElem hi'
          have hsum : (jP ((prodL y).take i)).length + (sp ((prodL y)[i]) 1).length ≤ (sp y 0).length := by
            have y1 : y ≠ S1 := fun e => hne0 (by rw [e, prodL_S1]; rfl)
            have e : prodL y = (prodL y).take i ++ [(prodL y)[i]] ++ (prodL y).drop (i + 1) := by rw [← et, List.take_append_drop]
            have e2 := congrArg jP e
            rw [jP_app, jP_snoc, jP_prodL cy y1] at e2
            have hs : isSum y = false := by
              cases y with
              | or a b => exact absurd rfl h1
              | _ => rfl
            rw [sp_01 hs, e2, List.length_append, List.length_append]
            omega
          refine b_62_90 ⟨c + 3, ⟨hK.1, by rw [f1.1]; exact hK.2.1.2.1⟩, so_1, c_spell (d := d) (pl := 1) (by omega) t1 (by rw [f1.1]; exact hx3) f2 j1 hfd (by decide) (by rw [List.length_append]; omega) (fun s2 w1 w2 => ?_)⟩
          rw [rt_none]
          refine b_62_97 ?_
          rw [← nI_succ]
          have := ih (i + 1) s2 (.int (nI j)) (by omega) (fX_trans f1 w2) (by rw [if_neg hne0, if_neg h1, et, jP_snoc, ← List.append_assoc]; exact w1)
          rw [← hbb] at this
          exact this
      refine b_62_30 ?_
      rw [if_neg (by rw [nJ_le (by omega) (by omega)]; omega)]
      refine ⟨13, ⟨so_12, rp_12_1 hP1⟩, 1984, ?_⟩
      rw [nI_lit 64, nJ_mul, nJ_add, nI_cl (show k * 64 + i < 2147483648 by omega), e13]
      refine ⟨⟨sa_13, inR_nI (by omega) (by decide)⟩, ?_⟩
      have eac : acF 4 (prodL y) (i + 1) = (acF 4 (prodL y) i && full (prodL y)[i]) := by
        show (acF 4 (prodL y) i && full ((prodL y).getD i S0)) = _
        rw [egd]
      cases hac : acF 4 (prodL y) i with
      | false =>
        rw [hac] at aft eac
        rw [if_pos (show bz false = 0 from rfl)]
        exact b_62_71 (aft false (by rw [eac]; rfl))
      | true =>
        rw [hac] at aft eac
        rw [if_neg (show ¬ bz true = 0 by decide)]
        refine ⟨1, ⟨so_12, rp_12_0 hP1⟩, so_1, tt_mono (c_isFull (d := 0) t1 j1 (by omega) ?_) (by omega) (fun _ _ q => q)⟩
        rw [rt_some]
        refine b_62_64 ?_
        cases hff : full (prodL y)[i] with
        | false =>
          rw [if_pos (show bz false = 0 from rfl)]
          exact b_62_71 (aft false (by rw [eac, hff]; rfl))
        | true =>
          rw [if_neg (show ¬ bz true = 0 by decide)]
          exact aft true (by rw [eac, hff]; rfl)
  refine b_62_0 ⟨14, ⟨so_12, rp_12_2 hP⟩, 31, ⟨sa_14, inR_nI h31 (by decide)⟩, ?_⟩
  rw [nI_cl (by omega), n1]
  by_cases h0 : (prodL y).length = 0
  · rw [if_neg (show ¬ ¬ nI (prodL y).length = 0 from fun q => q (by rw [h0]; rfl))]
    have e1 : prodL y = [] := List.length_eq_zero_iff.mp h0
    have e2 : y = S1 := by rw [← mkP_prodL cy, e1]; rfl
    have es : (sp y 0).length = 1 := by rw [e2]; rfl
    refine ⟨1, ⟨so_12, rp_12_0 hP⟩, c + 3, ⟨hK.1, hK.2.1.2.1⟩, so_1, c_spell (d := d) (k := 1) (pl := 0) (y := S1) (by omega) h hx3 o0 (tc_5 h 1 (by decide)) (by decide) (by decide) (show _ + 1 ≤ 4960 by omega) (fun s1 w1 w2 => ?_)⟩
    rw [rt_none]
    refine b_62_27 (loop _ 0 s1 .null rfl w2 ?_)
    rw [if_pos h0]; exact w1
  · rw [if_pos (show ¬ nI (prodL y).length = 0 from fun e => h0 ((nJ_eq (b := 0) (by omega) (by decide)).mp e))]
    refine b_62_27 (loop _ 0 s .null rfl (fX_refl s _) ?_)
    rw [if_neg h0]
    by_cases h1 : (prodL y).length = 1
    · rw [if_pos h1, if_pos rfl, List.append_nil]; exact o0
    · rw [if_neg h1, List.take_zero]; show txO s.1 (c + 3) (_ ++ []); rw [List.append_nil]; exact o0
end TE
