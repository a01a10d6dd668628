/-! SIDE -/
def tpL (x : txT) (n : Nat) : List Int32 := (List.range n).map x.2
theorem tpL_len (x : txT) (n : Nat) : (tpL x n).length = n := by unfold tpL; rw [List.length_map, List.length_range]
theorem tpL_at {x : txT} {n i : Nat} {c : Int32} (h : (tpL x n)[i]? = some c) : i < n ∧ c = x.2 i := by
  have hi := (List.getElem?_eq_some_iff.mp h).1
  rw [tpL_len] at hi
  unfold tpL at h
  rw [List.getElem?_map, List.getElem?_range hi] at h
  cases h
  exact ⟨hi, rfl⟩
/-- what the tape means -/
def sdRd (R : rmT) : Nat ⊕ Cond := rd (tpL R.1 (min R.1.1 30)) 0 [] [] [] true
def sdAns (R : rmT) : Int32 := match sdRd R with
  | .inl _ => -1
  | .inr x => if 30 < R.1.1 then -1 else nI (tms x).length
def sdNew (R : rmT) (σ : Nat) : rmT := match sdRd R with
  | .inl f => rmT0 R (nI f)
  | .inr x => if 30 < R.1.1 then rmT0 R 30 else rmPut (rmT0 R (-1)) σ (sdOf x)
theorem rmB_T0 {R : rmT} {f : Int32} (h : rmB gD R) : rmB gD (rmT0 R f) := ⟨⟨Nat.zero_le _, fun j hj => absurd hj (Nat.not_lt_zero _)⟩, h.2⟩
theorem rmB_put {R : rmT} {σ : Nat} {D : sdT} (h : rmB gD R) (hD : gD D) : rmB gD (rmPut R σ D) := by
  refine ⟨h.1, ?_, ?_, h.2.2.2.1, lnB_Z⟩
  · show gD (if σ = 0 then D else R.2.2.1)
    split
    · exact hD
    · exact h.2.1
  · show gD (if σ = 0 then R.2.2.2.1 else D)
    split
    · exact h.2.2.1
    · exact hD
theorem sdRd_z {R : rmT} {x : Cond} (h : sdRd R = .inr x) : cn x ∧ z0 x ≤ 30 ∧ z0 x ≤ R.1.1 := by
  have := (rd_size (tpL R.1 (min R.1.1 30)) 0 [] [] [] true rI_0).1 x h
  rw [tpL_len] at this
  exact ⟨this.1, by omega, by omega⟩
theorem sdNew_B {R : rmT} {σ : Nat} (h : rmB gD R) : rmB gD (sdNew R σ) := by
  unfold sdNew
  split
  · exact rmB_T0 h
  · rename_i x hx
    split
    · exact rmB_T0 h
    · have := sdRd_z hx
      exact rmB_put (rmB_T0 h) ⟨x, this.1, this.2.1, rfl⟩
section SI
variable {L : Nat} {xs : Nat → Int32} {d : Nat} {s : sT} {R : rmT} {I : Nat → Option rmT}
theorem nI_min {n : Nat} (hn : n ≤ 60) : (if (30 : Int32) < nI n then 30 else nI n) = nI (min n 30) := by
  by_cases h : 30 < n
  · rw [if_pos (by rw [nI_lit 30, nJ_lt (by omega) (by omega)]; exact h), Nat.min_eq_right (by omega)]; rfl
  · rw [if_neg (by rw [nI_lit 30, nJ_lt (by omega) (by omega)]; exact h), Nat.min_eq_left (by omega)]
theorem nI_2 {σ : Nat} (hσ : σ < 2) {k : Nat} (hk : k < 2) (h : nI σ = nI k) : k = σ := ((nJ_eq (by omega) (by omega)).mp h).symm
/-- the class's store behind the fault and the empty tape -/
theorem c_sideFin {s1 s2 : sT} {T : List Cond} {p : Nat} {f : Int32} {t : Nat} (hC : simC s R I) (hA : tA s.1) (h1 : ∀ z, z ≠ 61 → s1.1 z = s.1 z) (h12 : s1.2 = s.2) (ht : tc s2 T p) (h2 : s2.2 = (pR s1 11 1 (some t)).2) (hf : ∀ z, (z = 0 ∨ 8 < z) → z ≠ 11 → s2.1 z = s1.1 z) : simC (pV (pV s2 61 4 f) 62 1 0) (rmT0 R f) I ∧ tc (pV (pV s2 61 4 f) 62 1 0) T p ∧ tA (pV (pV s2 61 4 f) 62 1 0).1 ∧ ∀ i, 186 ≤ i → (pV (pV s2 61 4 f) 62 1 0).1 i = s.1 i ∧ (pV (pV s2 61 4 f) 62 1 0).2 i = s.2 i := by
  have o : ∀ z, z ≠ 61 → z ≠ 62 → (pV (pV s2 61 4 f) 62 1 0).1 z = s2.1 z := fun z a b => by funext u; rw [pV_1, if_neg (by omega), pV_1, if_neg (by omega)]
  have oo : ∀ z, 8 < z → z ≠ 11 → z ≠ 61 → z ≠ 62 → (pV (pV s2 61 4 f) 62 1 0).1 z = s.1 z := fun z a b c e => by rw [o z c e, hf z (Or.inr a) b, h1 z c]
  have e64 : (pV (pV s2 61 4 f) 62 1 0).2 64 = s.2 64 := by
    show s2.2 64 = s.2 64
    rw [h2]; funext k; rw [pR_2, if_neg (by omega), h12]
  have e186 : ∀ i, 186 ≤ i → (pV (pV s2 61 4 f) 62 1 0).2 i = s.2 i := fun i hi => by
    show s2.2 i = s.2 i
    rw [h2]; funext k; rw [pR_2, if_neg (by omega), h12]
  have tcc : tc (pV (pV s2 61 4 f) 62 1 0) T p := tc_off ht rfl (by rw [o 1 (by decide) (by decide)]) (by rw [o 1 (by decide) (by decide)]) (fun z _ _ => o z (by omega) (by omega))
  refine ⟨simC_mk hC ht.1 e64 (fun i a b => oo i (by omega) (by omega) (by omega) (by omega)) rfl (fun c0 c1 hcs hrm => ⟨⟨?_, fun j hj => absurd hj (Nat.not_lt_zero _)⟩, ?_, ?_, ?_, ?_⟩), tcc, ⟨tA_tc tcc, ?_, ?_⟩, fun i hi => ⟨oo i (by omega) (by omega) (by omega) (by omega), e186 i hi⟩⟩
  · rw [pV_1, if_pos ⟨rfl, rfl⟩]; rfl
  · rw [pV_1, if_neg (by omega), pV_1, if_pos ⟨rfl, rfl⟩]; rfl
  · exact sdC_off hrm.2.2.1 (fun i a b => oo i (by rcases hcs.2.2 with ⟨rfl, rfl⟩ | ⟨rfl, rfl⟩ <;> omega) (by rcases hcs.2.2 with ⟨rfl, rfl⟩ | ⟨rfl, rfl⟩ <;> omega) (by rcases hcs.2.2 with ⟨rfl, rfl⟩ | ⟨rfl, rfl⟩ <;> omega) (by rcases hcs.2.2 with ⟨rfl, rfl⟩ | ⟨rfl, rfl⟩ <;> omega))
  · exact sdC_off hrm.2.2.2.1 (fun i a b => oo i (by rcases hcs.2.2 with ⟨rfl, rfl⟩ | ⟨rfl, rfl⟩ <;> omega) (by rcases hcs.2.2 with ⟨rfl, rfl⟩ | ⟨rfl, rfl⟩ <;> omega) (by rcases hcs.2.2 with ⟨rfl, rfl⟩ | ⟨rfl, rfl⟩ <;> omega) (by rcases hcs.2.2 with ⟨rfl, rfl⟩ | ⟨rfl, rfl⟩ <;> omega))
  · exact lnC_off hrm.2.2.2.2.2 (fun i a b => oo i (by omega) (by omega) (by omega) (by omega))
  · rw [oo 26 (by decide) (by decide) (by decide) (by decide)]; exact hA.2.1
  · rw [oo 35 (by decide) (by decide) (by decide) (by decide)]; exact hA.2.2
theorem c_side {σ : Nat} (hC : simC s R I) (hA : tA s.1) (hB : rmB gD R) (hσ : σ < 2) : doC2 (yY L xs) (d + 174) 115 [.ref 0, .int (nI σ), .null, .null, .null] s R I (some (sdAns R)) (sdNew R σ) I := by
  intro K kk
  have hP := hC.1
  have hC0 := hC
  obtain ⟨-, ⟨c0, c1, hcs, hrm⟩, -⟩ := hC0
  have hlen := hB.1.1
  have e62 : s.1 62 1 = nI R.1.1 := hrm.1.1
  generalize hs1 : pV s 61 4 (-1) = s1
  have o1 : ∀ z, z ≠ 61 → s1.1 z = s.1 z := fun z hz => by rw [← hs1]; funext u; rw [pV_1, if_neg (by omega)]
  have e12 : s1.2 = s.2 := by rw [← hs1]; rfl
  have hP1 : rP s1.2 := by rw [e12]; exact hP
  have hA1 : tA s1.1 := tA_off hA (fun i hi => o1 i (by omega))
  refine b_115_0 ⟨61, ⟨so_0, rp_0_8 hP⟩, 62, ⟨so_61, rp_61_0 hP⟩, so_62, 61, ⟨so_0, rp_0_8 hP⟩, so_61, ?_⟩
  rw [hs1, e62]
  refine c_isSide (fun k0 _ _ => ?_) (fun hn => absurd rfl (hn σ hσ))
  rw [rt_some]
  refine b_115_28 ?_
  rw [if_neg (by decide)]
  refine ⟨11, ⟨so_0, rp_0_0 hP1⟩, so_11, ?_⟩
  rw [nI_min hlen]
  have hrd := c_read (L := L) (xs := xs) (d := d) (s := s1) (t := 62) (txt := tpL R.1 (min R.1.1 30)) (cap := 60) (size := R.1.1) (K := fun r s2 => tT (yY L xs) (d + 173 + 1) 115 45 [.ref 0, .int (nI σ), .ref 62, .int (nI R.1.1), .int 0] ((r.map Value.int).toList ++ []) s2 K) hP1 hA1 (by decide) (by rw [tpL_len]; omega) ⟨so_62, sa_63, rp_62_0 hP1, by decide⟩ (by rw [o1 62 (by decide)]; exact e62) (by rw [tpL_len]; omega) hlen (fun i c hc => by
    obtain ⟨h1, h2⟩ := tpL_at hc
    rw [o1 63 (by decide), h2]
    exact hrm.1.2 i (by omega)) (fun c hc => by
    obtain ⟨i, hi⟩ := List.getElem?_of_mem hc
    obtain ⟨h1, h2⟩ := tpL_at hi
    rw [h2]; exact hB.1.2 i (by omega)) (by
    have := List.count_le_length (a := (40 : Int32)) (l := tpL R.1 (min R.1.1 30))
    rw [tpL_len] at this; omega) (Or.inl (by rw [tpL_len]; omega)) (fun s2 f T p g1 g2 g3 g4 g5 g6 => ?_) (fun s2 T p j x g1 g2 g3 g4 g5 g6 g7 g8 => ?_)
  · rw [tpL_len] at hrd; exact hrd
  · have hf30 : f ≤ 30 := by rw [tpL_len] at g2; omega
    have e1 : sdAns R = -1 := by unfold sdAns sdRd; rw [g1]
    have e2 : sdNew R σ = rmT0 R (nI f) := by unfold sdNew sdRd; rw [g1]
    rw [e1, e2] at kk
    rw [rt_some]
    refine b_115_45 ⟨61, ⟨so_0, rp_0_8 g3.1⟩, so_0, b_144_0 ?_⟩
    rw [if_neg (fun q => q rfl)]
    refine ⟨11, ⟨so_0, rp_0_0 g3.1⟩, so_11, ?_⟩
    rw [g6, rt_some]
    refine b_115_58 ⟨so_61, b_115_61 ⟨so_62, x_clear so_62 ?_⟩⟩
    rw [rt_none]
    obtain ⟨w1, w2, w3, w4⟩ := c_sideFin (f := nI f) hC hA o1 e12 g3 g4 g5
    refine b_115_65 (c_isSide (fun k0 _ _ => ?_) (fun hn => absurd rfl (hn σ hσ)))
    rw [rt_some]
    refine b_115_69 ?_
    rw [if_neg (by decide)]
    refine ⟨61, ⟨so_0, rp_0_8 w1.1⟩, so_61, ?_⟩
    rw [if_neg (by rw [pV_1, if_neg (by omega), pV_1, if_pos ⟨rfl, rfl⟩]; exact nI_ne_neg (by omega))]
    exact kk _ w1 w3 w4
  · have hjl := tc_lt g4 g5
    rw [rt_some]
    refine b_115_45 ⟨61, ⟨so_0, rp_0_8 g4.1⟩, so_0, b_144_0 ?_⟩
    rw [if_pos (nI_ne_neg (by omega))]
    by_cases h30 : R.1.1 ≤ 30
    · rw [if_pos (by rw [nI_lit 30, nJ_le (by omega) (by omega)]; exact h30), rt_some]
      have e1 : sdAns R = nI (tms x).length := by unfold sdAns sdRd; rw [g1]; show (if 30 < R.1.1 then _ else _) = _; rw [if_neg (by omega)]
      have e2 : sdNew R σ = rmPut (rmT0 R (-1)) σ (sdOf x) := by unfold sdNew sdRd; rw [g1]; show (if 30 < R.1.1 then _ else _) = _; rw [if_neg (by omega)]
      rw [e1, e2] at kk
      refine b_115_58 ⟨so_61, b_115_61 ⟨so_62, x_clear so_62 ?_⟩⟩
      rw [rt_none]
      obtain ⟨w1, w2, w3, w4⟩ := c_sideFin (f := -1) hC hA o1 e12 g4 g6 g7
      refine b_115_65 (c_isSide (fun k0 _ _ => ?_) (fun hn => absurd rfl (hn σ hσ)))
      rw [rt_some]
      refine b_115_69 ?_
      rw [if_neg (by decide)]
      refine ⟨61, ⟨so_0, rp_0_8 w1.1⟩, so_61, ?_⟩
      rw [if_pos (by rw [pV_1, if_neg (by omega), pV_1, if_pos ⟨rfl, rfl⟩])]
      have hz : z0 x ≤ 30 := by rw [tpL_len] at g3; omega
      refine ⟨so_0, tt_mono (c_put (d := d) w1 ⟨hB.2.1, hB.2.2.1⟩ w2 hσ g5 hz (fun s5 v1 v2 v3 => ?_)) (by omega) (fun _ _ q => q)⟩
      rw [rt_some]
      refine b_115_92 (kk s5 v1 ⟨tA_tc v2, ?_, ?_⟩ (fun i hi => ⟨((v3 i (Or.inl hi)).1).trans (w4 i hi).1, ((v3 i (Or.inl hi)).2).trans (w4 i hi).2⟩))
      · rw [(v3 26 (by decide)).1]; exact w3.2.1
      · rw [(v3 35 (by decide)).1]; exact w3.2.2
    · rw [if_neg (by rw [nI_lit 30, nJ_le (by omega) (by omega)]; exact h30), rt_some]
      have e1 : sdAns R = -1 := by unfold sdAns sdRd; rw [g1]; show (if 30 < R.1.1 then _ else _) = _; rw [if_pos (by omega)]
      have e2 : sdNew R σ = rmT0 R 30 := by unfold sdNew sdRd; rw [g1]; show (if 30 < R.1.1 then _ else _) = _; rw [if_pos (by omega)]
      rw [e1, e2] at kk
      refine b_115_58 ⟨so_61, b_115_61 ⟨so_62, x_clear so_62 ?_⟩⟩
      rw [rt_none]
      obtain ⟨w1, w2, w3, w4⟩ := c_sideFin (f := 30) hC hA o1 e12 g4 g6 g7
      refine b_115_65 (c_isSide (fun k0 _ _ => ?_) (fun hn => absurd rfl (hn σ hσ)))
      rw [rt_some]
      refine b_115_69 ?_
      rw [if_neg (by decide)]
      refine ⟨61, ⟨so_0, rp_0_8 w1.1⟩, so_61, ?_⟩
      rw [if_neg (by rw [pV_1, if_neg (by omega), pV_1, if_pos ⟨rfl, rfl⟩]; decide)]
      exact kk _ w1 w3 w4
theorem c_side_no {a : Int32} (hC : simC s R I) (hA : tA s.1) (h : ∀ k, k < 2 → ¬ a = nI k) : doC2 (yY L xs) (d + 1) 115 [.ref 0, .int a, .null, .null, .null] s R I (some (-1)) (rmT0 R (-1)) I := by
  intro K kk
  have hP := hC.1
  refine b_115_0 ⟨61, ⟨so_0, rp_0_8 hP⟩, 62, ⟨so_61, rp_61_0 hP⟩, so_62, 61, ⟨so_0, rp_0_8 hP⟩, so_61, c_isSide (fun k hk e => absurd e (h k hk)) (fun _ => ?_)⟩
  rw [rt_some]
  refine b_115_28 ?_
  rw [if_pos rfl]
  refine b_115_61 ⟨so_62, x_clear so_62 ?_⟩
  rw [rt_none]
  refine b_115_65 (c_isSide (fun k hk e => absurd e (h k hk)) (fun _ => ?_))
  rw [rt_some]
  refine b_115_69 ?_
  rw [if_pos rfl]
  have o : ∀ z, z ≠ 61 → z ≠ 62 → (pV (pV s 61 4 (-1)) 62 1 0).1 z = s.1 z := fun z a b => by funext u; rw [pV_1, if_neg (by omega), pV_1, if_neg (by omega)]
  refine kk _ (simC_mk hC hP rfl (fun i a b => o i (by omega) (by omega)) rfl (fun c0 c1 hcs hrm => ⟨⟨?_, fun j hj => absurd hj (Nat.not_lt_zero _)⟩, ?_, ?_, ?_, ?_⟩)) (tA_off hA (fun i hi => o i (by omega) (by omega))) (fun i hi => ⟨o i (by omega) (by omega), rfl⟩)
  · rw [pV_1, if_pos ⟨rfl, rfl⟩]; rfl
  · rw [pV_1, if_neg (by omega), pV_1, if_pos ⟨rfl, rfl⟩]; rfl
  · exact sdC_off hrm.2.2.1 (fun i a b => o i (by rcases hcs.2.2 with ⟨rfl, rfl⟩ | ⟨rfl, rfl⟩ <;> omega) (by rcases hcs.2.2 with ⟨rfl, rfl⟩ | ⟨rfl, rfl⟩ <;> omega))
  · exact sdC_off hrm.2.2.2.1 (fun i a b => o i (by rcases hcs.2.2 with ⟨rfl, rfl⟩ | ⟨rfl, rfl⟩ <;> omega) (by rcases hcs.2.2 with ⟨rfl, rfl⟩ | ⟨rfl, rfl⟩ <;> omega))
  · exact lnC_off hrm.2.2.2.2.2 (fun i a b => o i (by omega) (by omega))
/-- the reference's half -/
theorem r_sideMk {s1 : sT} {f : Int32} (hR : simR s R I) (hI : ∀ k R', k < 2 → I k = some R' → rmB gD R') (h2 : s1.2 = s.2) (ho : ∀ z, 187 ≤ z → z < 190 → s1.1 z = s.1 z) (h3 : s1.1 186 3 = 0) (h4 : s1.1 186 4 = f) : simR s1 (rmT0 R f) I :=
  simR_mk hR hI h2 (fun j hj => absurd hj (Nat.not_lt_zero _)) (ho 189 (by decide) (by decide)) h3 h4 (fun j _ => by rw [ho 187 (by decide) (by decide)]) (by rw [ho 187 (by decide) (by decide)]; exact hR.2.1)
theorem r_side_no {a : Int32} (hR : simR s R I) (hI : ∀ k R', k < 2 → I k = some R' → rmB gD R') (h : ∀ k, k < 2 → ¬ a = nI k) : doR (yY L xs) (d + 1) 211 [.ref 186, .int a, .null, .null] s R I (some (-1)) (rmT0 R (-1)) I := by
  intro K kk
  refine b_211_0 ⟨so_186, so_186, so_186, r_isSide (fun k hk e => absurd e (h k hk)) (fun _ => ?_)⟩
  rw [rt_some]
  refine b_211_19 ?_
  rw [if_neg (fun q => q rfl)]
  have o : ∀ z, z ≠ 186 → (pV (pV s 186 3 0) 186 4 (-1)).1 z = s.1 z := fun z a => by funext u; rw [pV_1, if_neg (by omega), pV_1, if_neg (by omega)]
  exact kk _ (r_sideMk hR hI rfl (fun z a b => o z (by omega)) (by rw [pV_1, if_neg (by omega), pV_1, if_pos ⟨rfl, rfl⟩]) (by rw [pV_1, if_pos ⟨rfl, rfl⟩])) (fun i hi => ⟨o i (by omega), rfl⟩)
theorem r_side {σ : Nat} (hR : simR s R I) (hB : rmB gD R) (hI : ∀ k R', k < 2 → I k = some R' → rmB gD R') (hσ : σ < 2) : doR (yY L xs) (d + 11) 211 [.ref 186, .int (nI σ), .null, .null] s R I (some (sdAns R)) (sdNew R σ) I := by
  intro K kk
  have hM := hR.1
  have hlen := hB.1.1
  obtain ⟨p1, p2, p3⟩ := hR.2.2.1
  refine b_211_0 ⟨so_186, so_186, so_186, ?_⟩
  rw [p1]
  generalize hs1 : pV (pV s 186 3 0) 186 4 (-1) = s1
  have o1 : ∀ z, z ≠ 186 → s1.1 z = s.1 z := fun z a => by rw [← hs1]; funext u; rw [pV_1, if_neg (by omega), pV_1, if_neg (by omega)]
  have e12 : s1.2 = s.2 := by rw [← hs1]; rfl
  have e13 : s1.1 186 3 = 0 := by rw [← hs1, pV_1, if_neg (by omega), pV_1, if_pos ⟨rfl, rfl⟩]
  refine r_isSide (fun k0 _ _ => ?_) (fun hn => absurd rfl (hn σ hσ))
  rw [rt_some]
  refine b_211_19 ?_
  rw [if_pos (by decide)]
  refine ⟨so_186, tt_mono (r_clears (d := d) (by rw [e12]; exact hM) (fun s2 a1 a2 a3 a4 => ?_)) (by omega) (fun _ _ q => q)⟩
  rw [rt_none]
  have hM2 := a1.1
  have o2 : ∀ z, z < 190 → z ≠ 186 → s2.1 z = s.1 z := fun z h1 h2 => by rw [a2.2.1 z h1 h2, o1 z h2]
  -- behind the text
  have aft : tT (yY L xs) (d + 10 + 1) 211 46 [.ref 186, .int (nI σ), .int (nI R.1.1), .null] [.int (nI (min R.1.1 30)), .int 0, .ref 188, .ref 186] s2 K := by
    refine b_211_46 ⟨so_186, ?_⟩
    have hto := r_told (L := L) (xs := xs) (d := d + 4) (s := s2) (T := T5) (txt := tpL R.1 (min R.1.1 30)) (r1 := 188) (a := 0) (m := 60) (K := fun r s3 => tT (yY L xs) (d + 10 + 1) 211 49 [.ref 186, .int (nI σ), .int (nI R.1.1), .null] ((r.map Value.int).toList ++ []) s3 K) a1 (by rw [tpL_len]; show 5 + _ + 2 < 1500; omega) (by rw [tpL_len]; show 3 + _ + 300 ≤ 24000; omega) (by rw [tpL_len]; omega) sa_188 (by rw [tpL_len]; omega) (by decide) (Or.inr rfl) (fun i c hc => by
      obtain ⟨h1, h2⟩ := tpL_at hc
      rw [Nat.zero_add, o2 188 (by decide) (by decide), h2]
      exact p2 i (by omega)) (fun f s3 T3 g1 g2 g3 g4 g5 g6 g7 => ?_) (fun x s3 T3 j g1 g2 g3 g4 g5 g6 g7 g8 g9 => ?_)
    · rw [tpL_len] at hto; exact hto
    · rw [tpL_len] at g2
      have e1 : sdAns R = -1 := by unfold sdAns sdRd; rw [g1]
      have e2 : sdNew R σ = rmT0 R (nI f) := by unfold sdNew sdRd; rw [g1]
      rw [e1, e2] at kk
      rw [rt_some]
      have f3 := fk_trans a2 g4.1
      have fin : tT (yY L xs) (d + 10 + 1) 211 70 [.ref 186, .int (nI σ), .int (nI R.1.1), .int 0] [] s3 K := by
        refine b_211_70 ⟨so_186, so_186, so_186, ?_⟩
        have e26 : (pV s3 186 4 (s3.1 186 26)).1 186 26 = nI f := by rw [pV_1, if_neg (by omega)]; exact g7
        rw [if_pos (by rw [e26]; exact nI_ne_neg (by omega)), g7]
        have o3 : ∀ z, z ≠ 186 → z < 190 → (pV s3 186 4 (nI f)).1 z = s.1 z := fun z h1 h2 => by rw [← o1 z h1, ← f3.2.1 z h2 h1]; funext u; rw [pV_1, if_neg (by omega)]
        exact kk _ (r_sideMk hR hI (show s3.2 = s.2 from f3.1.trans e12) (fun z h1 h2 => o3 z (by omega) h2) (by rw [pV_1, if_neg (by omega), f3.2.2 3 (by decide)]; exact e13) (by rw [pV_1, if_pos ⟨rfl, rfl⟩])) (fun i hi => ⟨o3 i (by omega) (by omega), by show s3.2 i = s.2 i; rw [f3.1, e12]⟩)
      refine b_211_49 ?_
      by_cases h30 : nI R.1.1 ≤ 30
      · rw [if_pos h30]; exact fin
      · rw [if_neg h30]
        refine ⟨so_186, ?_⟩
        rw [if_pos (by rw [g7]; exact nI_ne_neg (by omega))]
        exact fin
    · rw [rt_some]
      have f3 := fk_trans a2 g5.1
      refine b_211_49 ?_
      by_cases h30 : R.1.1 ≤ 30
      · rw [if_pos (by rw [nI_lit 30, nJ_le (by omega) (by omega)]; exact h30)]
        have e1 : sdAns R = nI (tms x).length := by unfold sdAns sdRd; rw [g1]; show (if 30 < R.1.1 then _ else _) = _; rw [if_neg (by omega)]
        have e2 : sdNew R σ = rmPut (rmT0 R (-1)) σ (sdOf x) := by unfold sdNew sdRd; rw [g1]; show (if 30 < R.1.1 then _ else _) = _; rw [if_neg (by omega)]
        rw [e1, e2] at kk
        refine b_211_70 ⟨so_186, so_186, so_186, ?_⟩
        have e26 : (pV s3 186 4 (s3.1 186 26)).1 186 26 = -1 := by rw [pV_1, if_neg (by omega)]; exact g8
        rw [if_neg (fun q => q e26), g8]
        have o3 : ∀ z, z ≠ 186 → z < 190 → (pV s3 186 4 (-1)).1 z = s.1 z := fun z h1 h2 => by rw [← o1 z h1, ← f3.2.1 z h2 h1]; funext u; rw [pV_1, if_neg (by omega)]
        have e32 : (pV s3 186 4 (-1)).2 = s.2 := show s3.2 = s.2 from f3.1.trans e12
        have hR3 := r_sideMk (s1 := pV s3 186 4 (-1)) hR hI e32 (fun z h1 h2 => o3 z (by omega) h2) (by rw [pV_1, if_neg (by omega), f3.2.2 3 (by decide)]; exact e13) (by rw [pV_1, if_pos ⟨rfl, rfl⟩])
        have l5 : T5.length = 5 := rfl
        have p5 : pn T5 = 3 := rfl
        rw [tpL_len] at g3 g6 g7
        rw [l5] at g6
        rw [p5] at g7
        refine ⟨so_186, r_becomes hR3 (rmB_T0 hB) hI (tb_put g4 ⟨by omega, by omega⟩) (by omega) (by omega) g9 hσ (fun hz => by omega) (fun hz s4 v1 v2 => ?_)⟩
        rw [rt_some]
        exact b_211_92 (kk s4 v1 (fun i hi => ⟨((v2 i hi).1).trans (o3 i (by omega) (by omega)), ((v2 i hi).2).trans (by rw [e32])⟩))
      · rw [if_neg (by rw [nI_lit 30, nJ_le (by omega) (by omega)]; exact h30)]
        have e1 : sdAns R = -1 := by unfold sdAns sdRd; rw [g1]; show (if 30 < R.1.1 then _ else _) = _; rw [if_pos (by omega)]
        have e2 : sdNew R σ = rmT0 R 30 := by unfold sdNew sdRd; rw [g1]; show (if 30 < R.1.1 then _ else _) = _; rw [if_pos (by omega)]
        rw [e1, e2] at kk
        refine ⟨so_186, ?_⟩
        rw [if_neg (fun q => q g8)]
        refine ⟨so_186, b_211_70 ⟨so_186, so_186, so_186, ?_⟩⟩
        have e26 : (pV s3 186 26 30).1 186 26 = 30 := by rw [pV_1, if_pos ⟨rfl, rfl⟩]
        rw [e26]
        have e26' : (pV (pV s3 186 26 30) 186 4 30).1 186 26 = 30 := by rw [pV_1, if_neg (by omega)]; exact e26
        rw [if_pos (by rw [e26']; decide)]
        have o3 : ∀ z, z ≠ 186 → z < 190 → (pV (pV s3 186 26 30) 186 4 30).1 z = s.1 z := fun z h1 h2 => by rw [← o1 z h1, ← f3.2.1 z h2 h1]; funext u; rw [pV_1, if_neg (by omega), pV_1, if_neg (by omega)]
        exact kk _ (r_sideMk hR hI (show s3.2 = s.2 from f3.1.trans e12) (fun z h1 h2 => o3 z (by omega) h2) (by rw [pV_1, if_neg (by omega), pV_1, if_neg (by omega), f3.2.2 3 (by decide)]; exact e13) (by rw [pV_1, if_pos ⟨rfl, rfl⟩])) (fun i hi => ⟨o3 i (by omega) (by omega), by show s3.2 i = s.2 i; rw [f3.1, e12]⟩)
  refine b_211_28 ⟨188, ⟨so_186, rm_186_1 hM2⟩, ?_⟩
  by_cases h30 : R.1.1 ≤ 30
  · rw [if_pos (by rw [nI_lit 30, nJ_le (by omega) (by omega)]; exact h30)]
    rw [Nat.min_eq_left h30] at aft
    exact aft
  · rw [if_neg (by rw [nI_lit 30, nJ_le (by omega) (by omega)]; exact h30)]
    rw [Nat.min_eq_right (by omega)] at aft
    exact aft
theorem pr_side (a : Int32) : pairOK (yY L xs) (Sim gD) (d + 174) 115 211 [.ref 0, .int a, .null, .null, .null] [.ref 186, .int a, .null, .null] true := by
  refine pair_of2 fun s R I hC hR hA hB hI => ?_
  rcases ex_or 2 a with ⟨k, hk, rfl⟩ | h
  · exact ⟨some (sdAns R), sdNew R k, I, rfl, sdNew_B hB, hI, c_side hC hA hB hk, fun _ hR1 => r_side (d := d + 163) hR1 hB hI hk⟩
  · exact ⟨some (-1), rmT0 R (-1), I, rfl, rmB_T0 hB, hI, c_side_no (d := d + 173) hC hA h, fun _ hR1 => r_side_no (d := d + 173) hR1 hI h⟩
end SI
