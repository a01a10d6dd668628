/-! PARTS, BY THE CLASS -/
/-- rows of factors -/
def Rok (R : List Cond) : Prop := ∀ f ∈ R, cn f ∧ isProd f = false ∧ f ≠ S0 ∧ f ≠ S1
/-- the parts of a node with factors behind, as they come; those of a row of factors -/
def gN (l : Nat) (y : Cond) (R : List Cond) : List Cond := (rwp y l).map fun u => pj u (mkP R)
def gF (l : Nat) : List Cond → List Cond → List Cond
  | [], _ => []
  | f :: Fs, R => gN l f (Fs ++ R) ++ if full f = true then gF l Fs R else []
theorem mkP_app {A B : List Cond} (hA : Rok A) (hB : Rok B) : pj (mkP A) (mkP B) = mkP (A ++ B) := by
  have h1 := prodL_mkP hA
  have h2 := prodL_mkP hB
  rw [pj_eq h1.2.2.1 h2.2.2.1, h1.1, h2.1]
theorem gN_and {l : Nat} {f : Cond} {Fs R : List Cond} (hf : Rok (f :: Fs)) (hR : Rok R) (hne : Fs ≠ []) (ih : gF l Fs R = gN l (mkP Fs) R) : gF l (f :: Fs) R = gN l (mkP (f :: Fs)) R := by
  have hf1 := hf f List.mem_cons_self
  have hFs : Rok Fs := fun g hg => hf g (List.mem_cons_of_mem _ hg)
  have p1 := prodL_mkP hFs
  have p2 := prodL_mkP hR
  have em : mkP (f :: Fs) = .and f (mkP Fs) := by
    cases Fs with
    | nil => exact absurd rfl hne
    | cons g l => rfl
  rw [em]
  show gN l f (Fs ++ R) ++ (if full f = true then gF l Fs R else []) = ((rwp f l).map (fun y => pj y (mkP Fs)) ++ if full f = true then rwp (mkP Fs) l else []).map fun u => pj u (mkP R)
  rw [List.map_append, List.map_map]
  congr 1
  · unfold gN
    refine List.map_congr_left (fun u hu => ?_)
    have hu' := rwp_cn hf1.1 u hu
    show pj u (mkP (Fs ++ R)) = pj (pj u (mkP Fs)) (mkP R)
    rw [pj_assoc hu'.1 hu'.2 p1.2.1 p1.2.2.1 p2.2.1 p2.2.2.1, mkP_app hFs hR]
  · split
    · rw [ih]; rfl
    · rfl
theorem gF_mkP {l : Nat} {R : List Cond} (hR : Rok R) : ∀ {Fs : List Cond}, Rok Fs → Fs ≠ [] → gF l Fs R = gN l (mkP Fs) R
  | [], _, h => absurd rfl h
  | [f], h, _ => by
    show gN l f ([] ++ R) ++ (if full f = true then [] else []) = gN l f R
    rw [List.nil_append]
    split <;> rw [List.append_nil]
  | f :: g :: Fs, h, _ => gN_and h hR (List.cons_ne_nil _ _) (gF_mkP hR (fun w hw => h w (List.mem_cons_of_mem _ hw)) (List.cons_ne_nil _ _))
/-- the parts of a term -/
theorem gF_term {l : Nat} {z : Cond} (cz : cn z) : gF l (prodL z) [] = rwp z l := by
  by_cases h0 : z = S0
  · rw [h0, prodL_S0]
    show gN l S0 ([] ++ []) ++ _ = _
    have e : rwp S0 l = [] := by show (if 0 = 2 + l then _ else _) = _; rw [if_neg (by omega)]
    unfold gN
    rw [e]; rfl
  · have hR : Rok (prodL z) := fun f hf => cn_prodL cz h0 f hf
    by_cases h1 : z = S1
    · rw [h1, prodL_S1]
      show [] = rwp S1 l
      show [] = if 1 = 2 + l then _ else _
      rw [if_neg (by omega)]
    · rw [gF_mkP (fun f hf => by cases hf) hR (prodL_ne h1), mkP_prodL cz]
      unfold gN
      have : ∀ u ∈ rwp z l, pj u (mkP []) = u := fun u hu => by
        have hu' := rwp_cn cz u hu
        exact pj_1r hu'.1 hu'.2
      rw [List.map_congr_left this, List.map_id']
theorem gN_not {l : Nat} {a : Cond} {R : List Cond} (ca : cn (.not a)) (hR : Rok R) : gN l a (.not a :: R) = gN l (.not a) R := by
  have hn : Rok [.not a] := fun f hf => by
    rw [List.mem_singleton.mp hf]
    exact ⟨ca, rfl, (by intro e; cases e), (by intro e; cases e)⟩
  have p2 := prodL_mkP hR
  unfold gN
  show _ = ((rwp a l).map fun y => pj y (.not a)).map _
  rw [List.map_map]
  refine List.map_congr_left (fun u hu => ?_)
  have hu' := rwp_cn ca.1 u hu
  show pj u (mkP (.not a :: R)) = pj (pj u (.not a)) (mkP R)
  rw [pj_assoc hu'.1 hu'.2 ca (by intro e; cases e) p2.2.1 p2.2.2.1]
  have := mkP_app hn hR
  rw [show mkP [.not a] = .not a from rfl] at this
  rw [this]; rfl
theorem rwp_sumL : ∀ {y : Cond} {l : Nat}, cn y → y ≠ S0 → rwp y l = (sumL y).flatMap fun w => rwp w l := by
  intro y l
  induction y with
  | or a b _ ihb =>
    intro h _
    rw [sumL_or, List.flatMap_cons, ← ihb h.2.2.2.1 h.2.2.2.2.1]
    rfl
  | count k => intro _ h0; rw [sumL_one rfl h0, List.flatMap_cons, List.flatMap_nil, List.append_nil]
  | not a _ => intro _ h0; rw [sumL_one rfl h0, List.flatMap_cons, List.flatMap_nil, List.append_nil]
  | and a b _ _ => intro _ h0; rw [sumL_one rfl h0, List.flatMap_cons, List.flatMap_nil, List.append_nil]
  | _ => intro h; exact h.elim
theorem gN_sum {l : Nat} {y : Cond} {R : List Cond} (cy : cn y) (h1 : kC y = 1) : gN l y R = (chl y).flatMap fun w => gN l w R := by
  obtain ⟨e1, a, b, rfl⟩ := kC_1 h1
  unfold gN
  rw [rwp_sumL cy (by intro e; cases e), e1, List.map_flatMap]
theorem zs_len : ∀ {l : List Cond}, (∀ z ∈ l, cn z) → l.length ≤ zs l
  | [], _ => Nat.le_refl _
  | z :: l, h => by
    have := zs_len (l := l) (fun w hw => h w (List.mem_cons_of_mem _ hw))
    have := z01 (h z List.mem_cons_self)
    show l.length + 1 ≤ z1 z + zs l
    omega
/-- what holds while parts are gathered -/
def gS (L : Nat) (xs : Nat → Int32) (T : List Cond) (p l c : Nat) (F : List Cond) (a b : Nat) (s : sT) (A Rw R : List Cond) : Prop := tc s T p ∧ bhO s.1 T R ∧ tfO s.1 T A ∧ sdK (yY L xs) s.2 c ∧ sb s.1 c F a b ∧ rwB s.1 c F b Rw ∧ s.1 12 7 = nI (2 + l) ∧ (∀ w ∈ Rw, w ∈ F) ∧ Rw.Nodup
section GA
variable {L : Nat} {xs : Nat → Int32} {d : Nat} {s : sT} {K : Option Int32 → sT → Prop} {T : List Cond} {p l c a b : Nat} {F A Rw R : List Cond}
/-- frame of it -/
def fG (s s' : sT) (c : Nat) : Prop := s'.2 = s.2 ∧ ∀ z, (z < 12 ∨ 15 < z) → z ≠ c + 6 → z ≠ c + 7 → z ≠ c + 8 → s'.1 z = s.1 z
theorem fG_refl (s : sT) (c : Nat) : fG s s c := ⟨rfl, fun _ _ _ _ _ => rfl⟩
theorem fG_trans {s1 s2 : sT} (h1 : fG s s1 c) (h2 : fG s1 s2 c) : fG s s2 c := ⟨h2.1.trans h1.1, fun z a b e f => (h2.2 z a b e f).trans (h1.2 z a b e f)⟩
theorem fG_fB {s1 : sT} {m : Nat} (h : fB s s1 m) : fG s s1 c := ⟨h.1, fun z a _ _ _ => h.2.1 z (by omega) (by omega)⟩
theorem fG_fM {s1 : sT} (h : fM s s1) : fG s s1 c := ⟨h.1, fun z a _ _ _ => h.2.1 z (by omega) (by omega) (by omega)⟩
theorem fG_fS {s1 : sT} (h : fS s s1 c) : fG s s1 c := ⟨h.1, fun z _ a b e => h.2 z a b e⟩
theorem gS_fB {s1 : sT} {m : Nat} {R' : List Cond} (hc : 19 ≤ c) (h : gS L xs T p l c F a b s A Rw R) (hf : fB s s1 m) (hb : bhO s1.1 T R') : gS L xs T p l c F a b s1 A Rw R' := by
  obtain ⟨h1, h2, h3, h4, h5, h6, h7, h8⟩ := h
  have e : ∀ z, 19 ≤ z → s1.1 z = s.1 z := fun z hz => hf.2.1 z (by omega) (by omega)
  refine ⟨tc_fB h1 hf, hb, tfO_off h3 (hf.2.2.1 6 (by decide)) (hf.2.1 13 (by decide) (by decide)) (hf.2.1 14 (by decide) (by decide)), by rw [hf.1]; exact h4, sb_off h5 (by rw [e c hc]) (e _ (by omega)) (e _ (by omega)) (e _ (by omega)) (fun i _ => by rw [e _ (by omega)]) (fun i _ => by rw [e _ (by omega)]) (fun i _ => by rw [e _ (by omega)]), ?_, (hf.2.2.1 7 (by decide)).trans h7, h8⟩
  obtain ⟨r1, r2, r3, r4⟩ := h6
  exact ⟨by rw [e c hc]; exact r1, by rw [e _ (by omega)]; exact r2, by rw [e _ (by omega)]; exact r3, fun i z hz => by rw [e _ (by omega)]; exact r4 i z hz⟩
theorem gS_fM {s1 : sT} {A' : List Cond} (hc : 19 ≤ c) (h : gS L xs T p l c F a b s A Rw R) (hf : fM s s1) (ht : tfO s1.1 T A') : gS L xs T p l c F a b s1 A' Rw R := by
  obtain ⟨h1, h2, h3, h4, h5, h6, h7, h8⟩ := h
  have e : ∀ z, 15 ≤ z → s1.1 z = s.1 z := fun z hz => hf.2.1 z (by omega) (by omega) (by omega)
  refine ⟨tc_off h1 hf.1 (by rw [hf.2.1 1 (by decide) (by decide) (by decide)]) (by rw [hf.2.1 1 (by decide) (by decide) (by decide)]) (fun z _ _ => hf.2.1 z (by omega) (by omega) (by omega)), ?_, ht, by rw [hf.1]; exact h4, sb_off h5 (by rw [e c (by omega)]) (e _ (by omega)) (e _ (by omega)) (e _ (by omega)) (fun i _ => by rw [e _ (by omega)]) (fun i _ => by rw [e _ (by omega)]) (fun i _ => by rw [e _ (by omega)]), ?_, (hf.2.2 7 (by decide)).trans h7, h8⟩
  · obtain ⟨b1, b2, b3⟩ := h2
    exact ⟨by rw [hf.2.2 5 (by decide)]; exact b1, b2, fun i c' hc' => by rw [e 15 (by decide)]; exact b3 i c' hc'⟩
  · obtain ⟨r1, r2, r3, r4⟩ := h6
    exact ⟨by rw [e c (by omega)]; exact r1, by rw [e _ (by omega)]; exact r2, by rw [e _ (by omega)]; exact r3, fun i z hz => by rw [e _ (by omega)]; exact r4 i z hz⟩
/-- the stack cut back -/
theorem bh_cut {Fs : List Cond} (h : bhO s.1 T (Fs ++ R)) : bhO (pV s 12 5 (nI R.length)).1 T R ∧ fB s (pV s 12 5 (nI R.length)) R.length := by
  have hl := h.2.1
  rw [List.length_append] at hl
  refine ⟨⟨by rw [pV_1, if_pos ⟨rfl, rfl⟩], by omega, fun i c' hc' => ?_⟩, rfl, fun z h1 h2 => by funext u; rw [pV_1, if_neg (by omega)], fun i hi => by rw [pV_1, if_neg (by omega)], fun t _ => by rw [pV_1, if_neg (by omega)]⟩
  have hi := (List.getElem?_eq_some_iff.mp hc').1
  obtain ⟨j, j1, j2⟩ := h.2.2 (Fs.length + i) c' (by rw [List.getElem?_append_right (by omega), Nat.add_sub_cancel_left]; exact hc')
  refine ⟨j, j1, ?_⟩
  rw [pV_1, if_neg (by omega)]
  rw [List.length_append, show Fs.length + R.length - 1 - (Fs.length + i) = R.length - 1 - i by omega] at j2
  exact j2
/-- gatherNode goes well -/
def gOK (L : Nat) (xs : Nat → Int32) (T : List Cond) (p l c : Nat) (F : List Cond) (a b D m : Nat) : Prop := ∀ s K y k dep A Rw R, gS L xs T p l c F a b s A Rw R → Rok R → T[k]? = some y → dth y ≤ m → dep + m ≤ 40 → R.length + z0 y ≤ 190 → (∃ e, F = ddp A (gN l y R) ++ e) → (∀ s', gS L xs T p l c F a b s' (ddp A (gN l y R)) (ddp Rw (gN l y R)) R → fG s s' c → K none s') → tT (yY L xs) D 65 0 [.ref 12, .int (nI k), .ref c, .int (nI dep), .null, .null] [] s K
theorem gOK_mono {D D' m : Nat} (h : gOK L xs T p l c F a b D m) (hD : D ≤ D') : gOK L xs T p l c F a b D' m := fun s K y k dep A Rw R h1 h2 h3 h4 h5 h6 h7 h8 => tt_mono (h s K y k dep A Rw R h1 h2 h3 h4 h5 h6 h7 h8) hD (fun _ _ q => q)
theorem nI_top {n r : Nat} (h : n < r) (hr : r < 100000) : nI n < nI r := by rw [nJ_lt (by omega) (by omega)]; exact h
theorem nI_lt1 {r : Nat} (hr : r < 100000) : nI r - 1 < nI r := by
  cases r with
  | zero => decide
  | succ r => rw [nI_pred]; exact nI_top (by omega) hr
/-- a row of factors -/
theorem c_factors (hc : 19 ≤ c) {m dep : Nat} (hG : gOK L xs T p l c F a b (d + 2) m) (hdep : dep + m ≤ 40) (hR : Rok R) : ∀ (Fs : List Cond) (s : sT) (K : Option Int32 → sT → Prop) (A Rw : List Cond) (u6 : Value), gS L xs T p l c F a b s A Rw (Fs ++ R) → Rok Fs.tail → (∀ f ∈ Fs, dth f ≤ m) → zs Fs + R.length ≤ 190 → (∃ e, F = ddp A (gF l Fs R) ++ e) → (∀ s', gS L xs T p l c F a b s' (ddp A (gF l Fs R)) (ddp Rw (gF l Fs R)) R → fG s s' c → K none s') → tT (yY L xs) (d + 3) 64 11 [.ref 12, .int (nI R.length), .ref c, .int (nI dep), .int 1, .int (nI (Fs ++ R).length - 1), u6] [] s K
  | [], s, K, A, Rw, u6, h, _, _, hz, _, hK => by
    have hl := h.2.1.2.1
    refine b_64_11 ?_
    rw [List.nil_append] at hl
    rw [List.nil_append, if_pos (nI_lt1 (by omega))]
    have := bh_cut (Fs := []) (R := R) h.2.1
    exact ⟨so_12, hK _ (gS_fB hc h this.2 this.1) (fG_fB this.2)⟩
  | f :: Fs, s, K, A, Rw, u6, h, ht, hd, hz, hF, hK => by
    have hl := h.2.1.2.1
    rw [List.cons_append, List.length_cons] at hl
    have hP := h.1.1
    obtain ⟨j, j1, j2⟩ := h.2.1.2.2 0 f rfl
    have cf := tc_cn h.1 j1
    have hjl := tc_lt h.1 j1
    have e0 : (f :: Fs ++ R).length - 1 - 0 = (Fs ++ R).length := by rw [List.cons_append, List.length_cons]; omega
    rw [e0] at j2
    have hRR : Rok (Fs ++ R) := fun g hg => (List.mem_append.mp hg).elim (ht g) (hR g)
    have hlen : (Fs ++ R).length = Fs.length + R.length := List.length_append
    have hzf : z1 f + zs Fs + R.length ≤ 190 := hz
    have hzl := zs_len (l := Fs) (fun g hg => (ht g hg).1)
    have z01f := z01 cf
    have hsh := sh_z cf
    have eL : nI (f :: Fs ++ R).length - 1 = nI (Fs ++ R).length := by rw [List.cons_append, List.length_cons, nI_pred]
    have hgF : gF l (f :: Fs) R = gN l f (Fs ++ R) ++ if full f = true then gF l Fs R else [] := rfl
    rw [hgF, ddp_app] at hF
    rw [hgF] at hK
    have hF1 : ∃ e, F = ddp A (gN l f (Fs ++ R)) ++ e := by
      obtain ⟨e, he⟩ := hF
      obtain ⟨e', he'⟩ := ddp_pre (ddp A (gN l f (Fs ++ R))) (if full f = true then gF l Fs R else [])
      exact ⟨e' ++ e, by rw [he, he', List.append_assoc]⟩
    refine b_64_11 ?_
    rw [eL, if_neg (by rw [nJ_lt (by omega) (by omega)]; omega), if_neg (by decide)]
    refine ⟨15, ⟨so_12, rp_12_3 hP⟩, 192, ⟨sa_15, inR_nI (by omega) (by decide)⟩, so_12, so_12, ?_⟩
    rw [nI_cl (show (Fs ++ R).length < 2147483648 by omega), j2]
    have cut := bh_cut (Fs := [f]) (R := Fs ++ R) h.2.1
    refine tt_mono (hG _ _ f j dep A Rw (Fs ++ R) (gS_fB hc h cut.2 cut.1) hRR j1 (hd f List.mem_cons_self) hdep (by omega) hF1 (fun s1 q1 q2 => ?_)) (by omega) (fun _ _ q => q)
    rw [rt_none]
    have fg1 : fG s s1 c := fG_trans (fG_fB cut.2) q2
    refine b_64_45 ⟨1, ⟨so_12, rp_12_0 (by rw [fg1.1]; exact hP)⟩, so_1, tt_mono (c_isFull (d := d) q1.1 j1 (by omega) ?_) (by omega) (fun _ _ q => q)⟩
    rw [rt_some]
    refine b_64_54 ?_
    have eD : nI (Fs ++ R).length + -1 = nI (Fs ++ R).length - 1 := by rw [Int32.sub_eq_add_neg]
    rw [eD]
    cases hfu : full f with
    | true =>
      rw [hfu, if_pos rfl] at hF hK
      refine c_factors hc hG hdep hR Fs s1 K _ _ _ q1 (fun g hg => ht g (List.mem_of_mem_tail hg)) (fun g hg => hd g (List.mem_cons_of_mem _ hg)) (by omega) hF (fun s2 w1 w2 => hK s2 ?_ (fG_trans fg1 w2))
      rw [ddp_app, ddp_app]; exact w1
    | false =>
      rw [hfu, if_neg (by decide), List.append_nil] at hK
      have cut2 := bh_cut (Fs := Fs) (R := R) q1.2.1
      have fin := hK _ (gS_fB hc q1 cut2.2 cut2.1) (fG_trans fg1 (fG_fB cut2.2))
      refine b_64_11 ?_
      by_cases hlt : nI (Fs ++ R).length - 1 < nI R.length
      · rw [if_pos hlt]; exact ⟨so_12, fin⟩
      · rw [if_neg hlt, if_pos (show bz false = 0 from rfl)]; exact ⟨so_12, fin⟩
theorem pre_in {e zs' : List Cond} (h : F = ddp A zs' ++ e) {z : Cond} (hz : z ∈ zs') : z ∈ F := by
  rw [h]; exact List.mem_append_left _ (ddp_mem.mpr (Or.inr hz))
/-- THE PARTS OF A NODE -/
theorem c_gatherNode (hc : 19 ≤ c) (hFn : F.Nodup) (h31 : F.length ≤ 31) (hFc : ∀ z ∈ F, cn z ∧ (prodL z).length ≤ 64) (hb93 : b < 93) (hcap : psum (lenR F) b ≤ 930) (hl : l < 3) : ∀ m, gOK L xs T p l c F a b (d + 2 * m + 3) m
  | 0 => fun s K y k dep A Rw R h hR hk hd hdep hz hF hK => by
    have cy := tc_cn h.1 hk
    have hP := h.1.1
    have h0 : kC y = 0 := by
      cases y with
      | or a b => have : max (dth a + 1) (if isSum b = true then dth b else dth b + 1) ≤ 0 := hd; omega
      | and a b => have : max (dth a + 1) (if isProd b = true then dth b else dth b + 1) ≤ 0 := hd; omega
      | not a => have : dth a + 1 ≤ 0 := hd; omega
      | _ => rfl
    obtain ⟨q, hq, rfl⟩ := kC_0 cy h0
    have ek : k = q := (tc_eq h.1 hk (tc_5 h.1 q hq)).mpr rfl
    subst ek
    refine b_65_0 ?_
    rw [if_pos (show nI dep ≤ 40 from by rw [nI_lit 40, nJ_le (by omega) (by omega)]; omega)]
    refine ⟨so_12, 1, ⟨so_12, rp_12_0 hP⟩, so_1, c_kindOf h.1 hk ?_⟩
    rw [rt_some]
    refine b_65_21 ⟨fun e => absurd e (show ¬ nI 0 = 1 by decide), fun e => absurd e (show ¬ nI 0 = 2 by decide), fun e => absurd e (show ¬ nI 0 = 3 by decide), fun _ => ⟨so_12, ?_⟩⟩
    rw [h.2.2.2.2.2.2.1]
    by_cases hw : k = 2 + l
    · rw [if_neg (fun q => q (by rw [hw]))]
      have pm := prodL_mkP hR
      have eg : gN l (.count k) R = [mkP R] := by
        unfold gN
        have : rwp (.count k) l = [S1] := by show (if k = 2 + l then _ else _) = _; rw [if_pos hw]
        rw [this]
        show [pj S1 (mkP R)] = _
        rw [pj_1l pm.2.1 pm.2.2.1]
      rw [eg] at hF hK
      obtain ⟨e, he⟩ := hF
      have hzF : mkP R ∈ F := pre_in he List.mem_cons_self
      have hFz := hFc _ hzF
      rw [pm.1] at hFz
      refine ⟨so_12, c_numberOfTerm h.1 h.2.1 h.2.2.1 pm.1 pm.2.1 (fun hn => ?_) hFz.2 (fun s1 q1 q2 => ?_)⟩
      · rw [ddp_one, if_neg hn] at he
        have := congrArg List.length he
        rw [List.length_append, List.length_append, List.length_singleton] at this
        omega
      · rw [rt_some]
        have g1 := gS_fM hc h q2 q1
        have ei : (ddp A [mkP R]).idxOf (mkP R) = F.idxOf (mkP R) := by
          rw [he, idx_app (ddp_mem.mpr (Or.inr List.mem_cons_self))]
        rw [ei]
        have hRl : Rw.length ≤ 31 := Nat.le_trans (nd_le h.2.2.2.2.2.2.2.2 h.2.2.2.2.2.2.2.1) h31
        refine b_65_153 ⟨g1.2.2.2.1.1, c_addPart g1.2.2.2.1 g1.2.2.2.2.1 g1.2.2.2.2.2.1 hFn h31 h.2.2.2.2.2.2.2.1 hzF h.2.2.2.2.2.2.2.2 hb93 hcap (fun s2 w1 w2 w3 => ?_)⟩
        rw [rt_none]
        have es : ∀ z, z < 19 → s2.1 z = s1.1 z := fun z hz => w3.2 z (by omega) (by omega) (by omega)
        refine b_65_156 (hK s2 ⟨tc_off g1.1 w3.1 (by rw [es 1 (by decide)]) (by rw [es 1 (by decide)]) (fun z _ _ => es z (by omega)), ?_, tfO_off g1.2.2.1 (by rw [es 12 (by decide)]) (es 13 (by decide)) (es 14 (by decide)), by rw [w3.1]; exact g1.2.2.2.1, w1, w2, by rw [es 12 (by decide)]; exact g1.2.2.2.2.2.2.1, fun w hw => ?_, ddp_nodup h.2.2.2.2.2.2.2.2⟩ (fG_trans (fG_fM q2) (fG_fS w3)))
        · obtain ⟨b1, b2, b3⟩ := g1.2.1
          exact ⟨by rw [es 12 (by decide)]; exact b1, b2, fun i c' hc' => by rw [es 15 (by decide)]; exact b3 i c' hc'⟩
        · rcases ddp_mem.mp hw with q | q
          · exact h.2.2.2.2.2.2.2.1 w q
          · rw [List.mem_singleton.mp q]; exact hzF
    · rw [if_pos (show ¬ nI k = nI (2 + l) from fun e => hw ((nJ_eq (by omega) (by omega)).mp e))]
      have eg : gN l (.count k) R = [] := by
        unfold gN
        have : rwp (.count k) l = [] := by show (if k = 2 + l then _ else _) = _; rw [if_neg hw]
        rw [this]; rfl
      rw [eg] at hK
      exact b_65_156 (hK s h (fG_refl s c))
  | m + 1 => fun s K y k dep A Rw R h hR hk hd hdep hz hF hK => by
    have ih := c_gatherNode hc hFn h31 hFc hb93 hcap hl m
    by_cases hdm : dth y ≤ m
    · exact tt_mono (ih s K y k dep A Rw R h hR hk hdm (by omega) hz hF hK) (by omega) (fun _ _ q => q)
    have cy := tc_cn h.1 hk
    have hP := h.1.1
    have hkl := tc_lt h.1 hk
    have hkC := kC_le y
    have hk0 : kC y ≠ 0 := fun e => by
      obtain ⟨a, _, rfl⟩ := kC_0 cy e
      exact hdm (Nat.zero_le _)
    have hdc : ∀ w ∈ chl y, dth w ≤ m := fun w hw => by have := dth_chl cy w hw; omega
    refine b_65_0 ?_
    rw [if_pos (show nI dep ≤ 40 from by rw [nI_lit 40, nJ_le (by omega) (by omega)]; omega)]
    refine ⟨so_12, 1, ⟨so_12, rp_12_0 hP⟩, so_1, c_kindOf h.1 hk ?_⟩
    rw [rt_some, h.2.1.1]
    refine b_65_21 ⟨fun e => ?_, fun e => ?_, fun e => ?_, fun e => ?_⟩
    · have h1 : kC y = 1 := (nJ_eq (b := 1) (by omega) (by decide)).mp e
      have eg := gN_sum (l := l) (R := R) cy h1
      rw [eg] at hF hK
      have loop : ∀ q i (s1 : sT), q + i = (chl y).length → gS L xs T p l c F a b s1 (ddp A (((chl y).take i).flatMap fun w => gN l w R)) (ddp Rw (((chl y).take i).flatMap fun w => gN l w R)) R → fG s s1 c → tT (yY L xs) (d + 2 * (m + 1) + 3) 65 51 [.ref 12, .int (nI k), .ref c, .int (nI dep), .int (nI R.length), .int (nI i)] [] s1 K := by
        intro q
        induction q with
        | zero =>
          intro i s1 hi g1 g2
          refine b_65_51 ⟨1, ⟨so_12, rp_12_0 g1.1.1⟩, so_1, c_childrenOf g1.1 hk ?_⟩
          rw [rt_some]
          refine b_65_61 ?_
          rw [show i = (chl y).length by omega, if_pos (Int32.le_refl _)]
          rw [show i = (chl y).length by omega, List.take_length] at g1
          exact b_65_156 (hK s1 g1 g2)
        | succ q ihq =>
          intro i s1 hi g1 g2
          have hi' : i < (chl y).length := by omega
          have hcl := chl_z cy
          have hcm : (chl y)[i] ∈ chl y := List.getElem_mem _
          have hzc := z1_chl cy hcm
          have hcn := (chl_n0 cy _ hcm).2
          have z01c := z01 hcn
          refine b_65_51 ⟨1, ⟨so_12, rp_12_0 g1.1.1⟩, so_1, c_childrenOf g1.1 hk ?_⟩
          rw [rt_some]
          refine b_65_61 ?_
          rw [if_neg (by rw [nJ_le (by omega) (by omega)]; omega)]
          refine ⟨1, ⟨so_12, rp_12_0 g1.1.1⟩, so_1, c_childOf g1.1 hk (List.getElem?_eq_getElem hi') (fun j hj => ?_)⟩
          rw [rt_some]
          have et : ((chl y).take (i + 1)).flatMap (fun w => gN l w R) = ((chl y).take i).flatMap (fun w => gN l w R) ++ gN l ((chl y)[i]) R := take_flat hi'
          have hF1 : ∃ e, F = ddp (ddp A (((chl y).take i).flatMap fun w => gN l w R)) (gN l ((chl y)[i]) R) ++ e := by
            obtain ⟨e, he⟩ := hF
            have e2 : (chl y).flatMap (fun w => gN l w R) = ((chl y).take i).flatMap (fun w => gN l w R) ++ gN l ((chl y)[i]) R ++ ((chl y).drop (i + 1)).flatMap (fun w => gN l w R) := by
              rw [← et, ← List.flatMap_append, List.take_append_drop]
            rw [e2, ddp_app, ddp_app] at he
            obtain ⟨e', he'⟩ := ddp_pre (ddp (ddp A (((chl y).take i).flatMap fun w => gN l w R)) (gN l ((chl y)[i]) R)) (((chl y).drop (i + 1)).flatMap (fun w => gN l w R))
            exact ⟨e' ++ e, by rw [he, he', List.append_assoc]⟩
          have hzy : z0 ((chl y)[i]) ≤ z0 y := by
            obtain ⟨e1, aa, bb, rfl⟩ := kC_1 h1
            have hs := (cn_sumL cy _ (by rw [e1]; exact hcm)).2.1
            have e : sp ((chl (.or aa bb))[i]) 0 = sp ((chl (.or aa bb))[i]) 1 := sp_01 hs
            have h3 := (z_or aa bb).1
            have h4 := (z_or aa bb).2.1
            have : z0 ((chl (.or aa bb))[i]) + 1 ≤ wL (sumL (.or aa bb)) := by
              obtain ⟨l1, l2, e⟩ := List.append_of_mem (show (chl (.or aa bb))[i] ∈ sumL (.or aa bb) from hcm)
              rw [e, wL_app]
              show _ ≤ _ + (z0 _ + 1 + wL l2)
              omega
            have := wL_sumL cy
            omega
          refine b_65_75 ⟨so_12, ?_⟩
          rw [← nI_succ]
          refine tt_mono (ih s1 _ _ j (dep + 1) _ _ R g1 hR hj (hdc _ hcm) (by omega) (by omega) hF1 (fun s2 w1 w2 => ?_)) (by omega) (fun _ _ q => q)
          rw [rt_none]
          refine b_65_82 ?_
          rw [← nI_succ]
          refine ihq (i + 1) s2 (by omega) ?_ (fG_trans g2 w2)
          rw [et, ddp_app, ddp_app]; exact w1
      exact loop _ 0 s rfl (by rw [List.take_zero]; exact h) (fG_refl s c)
    · have h2 : kC y = 2 := (nJ_eq (b := 2) (by omega) (by decide)).mp e
      obtain ⟨e1, aa, bb, hab⟩ := kC_2 h2
      have y0 : y ≠ S0 := fun e => by rw [e] at hab; cases hab
      have y1 : y ≠ S1 := fun e => by rw [e] at hab; cases hab
      have hRy : Rok (prodL y) := fun f hf => cn_prodL cy y0 f hf
      have hpl := (sh_z cy).2.2.2
      have hzs : zs (prodL y) = z0 y := by
        have := (zs_mkP (prodL y)).2 (prodL_ne y1)
        rw [mkP_prodL cy] at this
        rw [← this, hab, (z_and aa bb).1, (z_and aa bb).2.1]
      have eg : gF l (prodL y) R = gN l y R := by rw [gF_mkP hR hRy (prodL_ne y1), mkP_prodL cy]
      refine ⟨so_12, c_pushFactors (d := d + 2 * m + 3) h.1 h.2.1 (by omega) hk (fun s1 q1 q2 => ?_)⟩
      rw [rt_none]
      have g1 := gS_fB hc h q2 q1
      refine b_65_96 ⟨so_12, b_64_0 ⟨so_12, ?_⟩⟩
      rw [q1.1, ← nI_succ]
      refine c_factors (d := d + 2 * m + 1) hc ih (dep := dep + 1) (by omega) hR (prodL y) s1 _ A Rw .null g1 (fun g hg => hRy g (List.mem_of_mem_tail hg)) (fun g hg => hdc g (by rw [← e1]; exact hg)) (by omega) (by rw [eg]; exact hF) (fun s2 w1 w2 => ?_)
      rw [rt_none]
      rw [eg] at w1
      exact b_65_106 (b_65_156 (hK s2 w1 (fG_trans (fG_fB q2) w2)))
    · have h3 : kC y = 3 := (nJ_eq (b := 3) (by omega) (by decide)).mp e
      obtain ⟨u, rfl⟩ := kC_3 h3
      have eg := gN_not (l := l) cy hR
      have hzu := (z_not u).1
      have z12u := z12 cy.1
      have z01u := z01 cy.1
      refine ⟨so_12, c_fpush hP h.2.1 (by omega) hk (fun s1 q1 q2 => ?_)⟩
      rw [rt_none]
      have g1 := gS_fB hc h q2 q1
      have hR1 : Rok (.not u :: R) := fun f hf => by
        rcases List.mem_cons.mp hf with rfl | hf
        · exact ⟨cy, rfl, (by intro e; cases e), (by intro e; cases e)⟩
        · exact hR f hf
      refine b_65_114 ⟨1, ⟨so_12, rp_12_0 g1.1.1⟩, so_1, c_childOf (i := 0) g1.1 hk rfl (fun j hj => ?_)⟩
      rw [rt_some]
      refine b_65_124 ⟨so_12, ?_⟩
      rw [← nI_succ]
      refine tt_mono (ih s1 _ u j (dep + 1) A Rw (.not u :: R) g1 hR1 hj (hdc u List.mem_cons_self) (by omega) (by rw [List.length_cons]; omega) (by rw [eg]; exact hF) (fun s2 w1 w2 => ?_)) (by omega) (fun _ _ q => q)
      rw [rt_none]
      rw [eg] at w1
      have cut := bh_cut (Fs := [.not u]) (R := R) w1.2.1
      exact b_65_131 ⟨so_12, b_65_156 (hK _ (gS_fB hc w1 cut.2 cut.1) (fG_trans (fG_fB q2) (fG_trans w2 (fG_fB cut.2))))⟩
    · exfalso
      obtain ⟨n1, n2, n3⟩ := e
      have : kC y = 1 ∨ kC y = 2 ∨ kC y = 3 := by omega
      rcases this with q | q | q <;> rw [q] at n1 n2 n3
      · exact n1 rfl
      · exact n2 rfl
      · exact n3 rfl
end GA
