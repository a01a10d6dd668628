/-! MAKE -/
theorem simC_low {s s' : sT} {R : rmT} {I : Nat → Option rmT} (h : simC s R I) (hP : rP s'.2) (h64 : s'.2 64 = s.2 64) (hs : ∀ i, 61 ≤ i → i < 186 → s'.1 i = s.1 i) : simC s' R I :=
  simC_mk h hP h64 (fun i a b => hs i (by omega) b) rfl (fun c0 c1 hcs hrm => ⟨txC_off hrm.1 (hs _ (by decide) (by decide)) (hs _ (by decide) (by decide)), by rw [hs 61 (by decide) (by decide)]; exact hrm.2.1, sdC_off hrm.2.2.1 (fun i a b => hs i (by rcases hcs.2.2 with ⟨rfl, rfl⟩ | ⟨rfl, rfl⟩ <;> omega) (by rcases hcs.2.2 with ⟨rfl, rfl⟩ | ⟨rfl, rfl⟩ <;> omega)), sdC_off hrm.2.2.2.1 (fun i a b => hs i (by rcases hcs.2.2 with ⟨rfl, rfl⟩ | ⟨rfl, rfl⟩ <;> omega) (by rcases hcs.2.2 with ⟨rfl, rfl⟩ | ⟨rfl, rfl⟩ <;> omega)), lnC_off hrm.2.2.2.2.2 (fun i a b => hs i (by omega) (by omega))⟩)
theorem txO_of {v : Nat → Nat → Int32} {t : Nat} {o : List Int32} (h : txC v t (txL o)) : txO v t o := by
  refine ⟨h.1, fun i c hc => ?_⟩
  rw [h.2 i (List.getElem?_eq_some_iff.mp hc).1, txL_at hc]
/-- what make answers, and what is then -/
def mkAns (w : Nat) (A B : Cond) : Int32 := if z0 (mkX w A B) ≤ 30 then nI (tms (mkX w A B)).length else -1
def mkNew (R : rmT) (σ w : Nat) (A B : Cond) : rmT := if z0 (mkX w A B) ≤ 30 then rmPut R σ (sdOf (mkX w A B)) else R
section MA
variable {L : Nat} {xs : Nat → Int32} {d : Nat} {s : sT} {K : Option Int32 → sT → Prop} {R : rmT} {I : Nat → Option rmT}
theorem c_addAll {t o cap capo : Nat} {o1 o2 : List Int32} (hx : tX (yY L xs) s.2 t cap) (ho : txO s.1 t o1) (hy : tX (yY L xs) s.2 o capo) (ho2 : txO s.1 o o2) (hc : o1.length + o2.length ≤ cap) (hc2 : o2.length ≤ capo) (hd : t + 1 < o ∨ o + 1 < t) (hK : ∀ s', txO s'.1 t (o1 ++ o2) → fX s s' t → K none s') : tT (yY L xs) d 73 0 [.ref t, .ref o, .null] [] s K := by
  refine x_addAll hx ho.1 hy ho2.1 hc2 hc (hK _ ⟨?_, fun i c hi => ?_⟩ ⟨rfl, fun z a b => ?_, fun i hi => ?_⟩)
  · rw [pV_1, if_pos ⟨rfl, rfl⟩, List.length_append]
  · have hl := (List.getElem?_eq_some_iff.mp hi).1
    rw [List.length_append] at hl
    rw [pV_1, if_neg (by omega), pA_1, if_pos rfl]
    simp only [va_cpy]
    by_cases e : i < o1.length
    · rw [List.getElem?_append_left e] at hi
      rw [if_neg (by omega)]; exact ho.2 i c hi
    · rw [List.getElem?_append_right (by omega)] at hi
      rw [if_pos ⟨by omega, by omega⟩, show 0 + (i - o1.length) = i - o1.length by omega]
      exact ho2.2 _ c hi
  · funext u; rw [pV_1, if_neg (by omega), pA_1, if_neg (by omega)]
  · rw [pV_1, if_neg (by omega), pA_1, if_neg (by omega)]
theorem txO_fX {s' : sT} {t o : Nat} {l : List Int32} (h : txO s.1 o l) (hf : fX s s' t) (hd : t + 1 < o ∨ o + 1 < t) : txO s'.1 o l := ⟨by rw [hf.2.1 o (by omega) (by omega)]; exact h.1, fun i c hc => by rw [hf.2.1 (o + 1) (by omega) (by omega)]; exact h.2 i c hc⟩
theorem c_addBracketed {t o cap capo : Nat} {o1 o2 : List Int32} (hx : tX (yY L xs) s.2 t cap) (ho : txO s.1 t o1) (hy : tX (yY L xs) s.2 o capo) (ho2 : txO s.1 o o2) (hc : o1.length + o2.length + 2 ≤ cap) (hc2 : o2.length ≤ capo) (hd : t + 1 < o ∨ o + 1 < t) (hK : ∀ s', txO s'.1 t (o1 ++ 40 :: (o2 ++ [41])) → fX s s' t → K none s') : tT (yY L xs) (d + 1) 74 0 [.ref t, .ref o] [] s K := by
  refine b_74_0 ⟨hx.1, c_add hx ho (by omega) (fun s1 q1 q2 => ?_)⟩
  rw [rt_none]
  refine b_74_6 ⟨hx.1, c_addAll (by rw [q2.1]; exact hx) q1 (by rw [q2.1]; exact hy) (txO_fX ho2 q2 hd) (by rw [List.length_append, List.length_singleton]; omega) hc2 hd (fun s2 q3 q4 => ?_)⟩
  rw [rt_none]
  refine b_74_11 ⟨hx.1, c_add (by rw [q4.1, q2.1]; exact hx) q3 (by rw [List.length_append, List.length_append, List.length_singleton]; omega) (fun s3 q5 q6 => ?_)⟩
  rw [rt_none]
  refine b_74_17 (hK s3 ?_ (fX_trans q2 (fX_trans q4 q6)))
  have e : o1 ++ [40] ++ o2 ++ [41] = o1 ++ 40 :: (o2 ++ [41]) := by rw [List.append_assoc, List.append_assoc]; rfl
  rw [← e]; exact q5
theorem c_draftOf {w oa ob : Nat} {A B : Cond} (hw : w < 4) (hP : rP s.2) (ha : tX (yY L xs) s.2 oa 30) (hb : tX (yY L xs) s.2 ob 30) (ta : txO s.1 oa (sp A 0)) (tb' : txO s.1 ob (sp B 0)) (hA : z0 A ≤ 30) (hB : z0 B ≤ 30) (hoa : 20 ≤ oa) (hob : 20 ≤ ob) (hK : ∀ s', txO s'.1 9 (drf w A B) → fX s s' 9 → K none s') : tT (yY L xs) (d + 2) 147 0 [.ref 0, .int (nI w), .ref oa, .ref ob] [] s K := by
  have lA : (sp A 0).length ≤ 30 := hA
  have lB : (sp B 0).length ≤ 30 := hB
  have hx : ∀ {s' : sT}, fX s s' 9 → tX (yY L xs) s'.2 9 68 := fun f => ⟨so_9, sa_10, by rw [f.1]; exact rp_9_0 hP, by decide⟩
  have hP' : ∀ {s' : sT}, fX s s' 9 → rP s'.2 := fun f => by rw [f.1]; exact hP
  refine b_147_0 ⟨9, ⟨so_0, rp_0_5 hP⟩, so_9, x_clear so_9 ?_⟩
  rw [rt_none]
  generalize hs1 : pV s 9 1 0 = s1
  have f1 : fX s s1 9 := by rw [← hs1]; exact ⟨rfl, fun z a b => by funext u; rw [pV_1, if_neg (by omega)], fun i hi => by rw [pV_1, if_neg (by omega)]⟩
  have t1 : txO s1.1 9 [] := ⟨by rw [← hs1, pV_1, if_pos ⟨rfl, rfl⟩]; rfl, fun i c hc => by cases hc⟩
  have ta1 := txO_fX ta f1 (by omega)
  have tb1 := txO_fX tb' f1 (by omega)
  refine b_147_7 ⟨fun e => ?_, fun e => ?_, fun e => ?_, fun e => ?_⟩
  · have e1 : w = 1 := (nJ_eq (b := 1) (by omega) (by decide)).mp e
    subst e1
    refine ⟨9, ⟨so_0, rp_0_5 (hP' f1)⟩, so_9, c_addAll (hx f1) t1 (by rw [f1.1]; exact ha) ta1 (by rw [List.length_nil]; omega) lA (by omega) (fun s2 q1 q2 => ?_)⟩
    rw [rt_none]
    rw [List.nil_append] at q1
    have f2 := fX_trans f1 q2
    refine b_147_44 ⟨9, ⟨so_0, rp_0_5 (hP' f2)⟩, so_9, c_add (hx f2) q1 (by omega) (fun s3 q3 q4 => ?_)⟩
    rw [rt_none]
    have f3 := fX_trans f2 q4
    refine b_147_53 ⟨9, ⟨so_0, rp_0_5 (hP' f3)⟩, so_9, c_addAll (hx f3) q3 (by rw [f3.1]; exact hb) (txO_fX tb' f3 (by omega)) (by rw [List.length_append, List.length_singleton]; omega) lB (by omega) (fun s4 q5 q6 => ?_)⟩
    rw [rt_none]
    refine b_147_61 (b_147_111 (hK s4 ?_ (fX_trans f3 q6)))
    have e : drf 1 A B = sp A 0 ++ [43] ++ sp B 0 := by rw [List.append_assoc]; rfl
    rw [e]; exact q5
  · have e1 : w = 2 := (nJ_eq (b := 2) (by omega) (by decide)).mp e
    subst e1
    refine ⟨9, ⟨so_0, rp_0_5 (hP' f1)⟩, so_9, c_addBracketed (hx f1) t1 (by rw [f1.1]; exact ha) ta1 (by rw [List.length_nil]; omega) lA (by omega) (fun s2 q1 q2 => ?_)⟩
    rw [rt_none]
    rw [List.nil_append] at q1
    have f2 := fX_trans f1 q2
    refine b_147_72 ⟨9, ⟨so_0, rp_0_5 (hP' f2)⟩, so_9, c_addBracketed (hx f2) q1 (by rw [f2.1]; exact hb) (txO_fX tb' f2 (by omega)) (by rw [List.length_cons, List.length_append, List.length_singleton]; omega) lB (by omega) (fun s3 q3 q4 => ?_)⟩
    rw [rt_none]
    refine b_147_80 (b_147_111 (hK s3 ?_ (fX_trans f2 q4)))
    have e : drf 2 A B = 40 :: (sp A 0 ++ [41]) ++ 40 :: (sp B 0 ++ [41]) := by
      show 40 :: (sp A 0 ++ 41 :: 40 :: (sp B 0 ++ [41])) = _
      rw [List.cons_append, List.append_assoc]; rfl
    rw [e]; exact q3
  · have e1 : w = 3 := (nJ_eq (b := 3) (by omega) (by decide)).mp e
    subst e1
    refine ⟨9, ⟨so_0, rp_0_5 (hP' f1)⟩, so_9, c_addBracketed (hx f1) t1 (by rw [f1.1]; exact ha) ta1 (by rw [List.length_nil]; omega) lA (by omega) (fun s2 q1 q2 => ?_)⟩
    rw [rt_none]
    rw [List.nil_append] at q1
    have f2 := fX_trans f1 q2
    refine b_147_91 ⟨9, ⟨so_0, rp_0_5 (hP' f2)⟩, so_9, c_add (hx f2) q1 (by rw [List.length_cons, List.length_append, List.length_singleton]; omega) (fun s3 q3 q4 => ?_)⟩
    rw [rt_none]
    refine b_147_100 (b_147_111 (hK s3 ?_ (fX_trans f2 q4)))
    have e : drf 3 A B = 40 :: (sp A 0 ++ [41]) ++ [42] := by
      show 40 :: (sp A 0 ++ [41, 42]) = _
      rw [List.cons_append, List.append_assoc]; rfl
    rw [e]; exact q3
  · have e1 : w = 0 := by
      obtain ⟨n1, n2, n3⟩ := e
      rcases (show w = 0 ∨ w = 1 ∨ w = 2 ∨ w = 3 by omega) with q | q | q | q
      · exact q
      · rw [q] at n1; exact absurd rfl n1
      · rw [q] at n2; exact absurd rfl n2
      · rw [q] at n3; exact absurd rfl n3
    subst e1
    refine ⟨9, ⟨so_0, rp_0_5 (hP' f1)⟩, so_9, c_addAll (hx f1) t1 (by rw [f1.1]; exact ha) ta1 (by rw [List.length_nil]; omega) lA (by omega) (fun s2 q1 q2 => ?_)⟩
    rw [rt_none]
    rw [List.nil_append] at q1
    exact b_147_111 (hK s2 q1 (fX_trans f1 q2))
theorem c_make {σ w k1 k2 : Nat} {x4 : Int32} {A B : Cond} (hC : simC s R I) (hA : tA s.1) (hB : rmB gD R) (hσ : σ < 2) (hw : w < 4) (h1 : k1 < 4) (h2 : k2 < 4) (hx4 : (w = 1 ∨ w = 2) → x4 = nI k2) (hk : ¬ (w = 1 ∨ w = 2) → k2 = k1) (cA : cn A) (zA : z0 A ≤ 30) (cB : cn B) (zB : z0 B ≤ 30) (eA : R.2.2.2.2.1 k1 = sdOf A) (eB : R.2.2.2.2.1 k2 = sdOf B) : doC2 (yY L xs) (d + 174) 119 [.ref 0, .int (nI σ), .int (nI w), .int (nI k1), .int x4, .null, .null] s R I (some (mkAns w A B)) (mkNew R σ w A B) I := by
  intro K kk
  have hP := hC.1
  have hC0 := hC
  obtain ⟨-, ⟨c0, c1, hcs, hrm⟩, -⟩ := hC0
  have hsl := (rk_61 (L := L) (xs := xs) hP hcs).2.2.2.2.1
  have ta : txO s.1 (94 + 2 * k1) (sp A 0) := by
    have := hrm.2.2.2.2.1 k1 h1
    rw [eA] at this
    exact txO_of this
  have tb' : txO s.1 (94 + 2 * k2) (sp B 0) := by
    have := hrm.2.2.2.2.1 k2 h2
    rw [eB] at this
    exact txO_of this
  have hX := mkX_cn (w := w) cA cB zA zB
  have hdX := mkX_dth (w := w) cA cB zA zB
  have hdl := drf_len (w := w) zA zB
  -- behind the slots
  have at55 : ∀ x5 : Int32, (x5 = 0 ↔ ¬ (w = 1 ∨ w = 2)) → tT (yY L xs) (d + 174) 119 55 [.ref 0, .int (nI σ), .int (nI w), .int (nI k1), .int x4, .int x5, .null] [] s K := by
    intro x5 hx5
    have at84 : tT (yY L xs) (d + 174) 119 84 [.ref 0, .int (nI σ), .int (nI w), .int (nI k1), .int x4, .int x5, .null] [.int (nI k2), .ref 83, .ref (94 + 2 * k1), .int (nI w), .ref 0] s K := by
      refine b_119_84 ⟨7, 4, 94 + 2 * k2, ⟨hsl.1, inR_nI h2 (by decide), by rw [nI_cl (by omega)]; exact (hsl.2 k2 h2).1⟩, so_0, tt_mono (c_draftOf (d := d) hw hP (hsl.2 k1 h1).2 (hsl.2 k2 h2).2 ta tb' zA zB (by omega) (by omega) (fun s1 q1 q2 => ?_)) (by omega) (fun _ _ q => q)⟩
      rw [rt_none]
      have hP1 : rP s1.2 := by rw [q2.1]; exact hP
      have hA1 : tA s1.1 := tA_off hA (fun i hi => q2.2.1 i (by omega) (by omega))
      refine b_119_88 ⟨11, ⟨so_0, rp_0_0 hP1⟩, 9, ⟨so_0, rp_0_5 hP1⟩, 9, ⟨so_0, rp_0_5 hP1⟩, so_9, so_11, ?_⟩
      rw [q1.1]
      refine c_read (L := L) (xs := xs) (d := d) (t := 9) (cap := 68) (size := (drf w A B).length) hP1 hA1 (by decide) (by omega) ⟨so_9, sa_10, rp_9_0 hP1, by decide⟩ q1.1 (Nat.le_refl _) (by omega) q1.2 (drf_n1 cA cB) (drf_40 cA cB zA zB) (Or.inr (fun f e => by rw [rd_drf cA cB] at e; cases e)) (fun s2 f T p g1 => by rw [rd_drf cA cB] at g1; cases g1) (fun s2 T p j x g1 g2 g3 g4 g5 g6 g7 g8 => ?_)
      rw [rd_drf cA cB] at g1
      cases g1
      have hjl := tc_lt g4 g5
      rw [rt_some]
      refine b_119_106 ?_
      rw [if_neg (nI_ne_neg (by omega))]
      refine ⟨12, ⟨so_0, rp_0_1 g4.1⟩, so_12, b_60_0 ⟨16, ⟨so_12, rp_12_4 g4.1⟩, so_16, x_clear so_16 ?_⟩⟩
      rw [rt_none]
      generalize hs3 : pV s2 16 1 0 = s3
      have o3 : ∀ z, z ≠ 16 → s3.1 z = s2.1 z := fun z hz => by rw [← hs3]; funext u; rw [pV_1, if_neg (by omega)]
      have e32 : s3.2 = s2.2 := by rw [← hs3]; rfl
      have t3 : tc s3 T p := tc_off g4 e32 (by rw [o3 1 (by decide)]) (by rw [o3 1 (by decide)]) (fun z _ _ => o3 z (by omega))
      have x3 : txO s3.1 16 [] := ⟨by rw [← hs3, pV_1, if_pos ⟨rfl, rfl⟩]; rfl, fun i c hc => by cases hc⟩
      refine b_60_7 ⟨1, ⟨so_12, rp_12_0 t3.1⟩, 16, ⟨so_12, rp_12_4 t3.1⟩, so_1, tt_mono (c_spell (d := d) (pl := 0) (o := []) (cap := 68) (by decide) t3 ⟨so_16, sa_17, rp_16_0 t3.1, by decide⟩ x3 g5 hdX (by decide) (show 0 + z0 _ ≤ 68 by omega) (fun s4 w1 w2 => ?_)) (by omega) (fun _ _ q => q)⟩
      rw [rt_none]
      rw [List.nil_append] at w1
      have t4 := tc_fX t3 w2 (by decide)
      refine b_60_20 ⟨16, ⟨so_12, rp_12_4 t4.1⟩, so_16, ?_⟩
      rw [w1.1, rt_some]
      -- the store so far
      have o4 : ∀ z, 17 < z → s4.1 z = s.1 z := fun z hz => by rw [w2.2.1 z (by omega) (by omega), o3 z (by omega), g7 z (by omega) (by omega), q2.2.1 z (by omega) (by omega)]
      have e4r : ∀ i, i ≠ 11 → s4.2 i = s.2 i := fun i hi => by
        rw [w2.1, e32, g6]; funext k; rw [pR_2, if_neg (by omega), q2.1]
      have hC4 : simC s4 R I := simC_low hC t4.1 (e4r 64 (by decide)) (fun i a b => o4 i (by omega))
      have hA4 : tA s4.1 := ⟨tA_tc t4, by rw [o4 26 (by decide)]; exact hA.2.1, by rw [o4 35 (by decide)]; exact hA.2.2⟩
      refine b_119_123 ?_
      have ez : (sp (mkX w A B) 0).length = z0 (mkX w A B) := rfl
      rw [ez]
      by_cases hz : z0 (mkX w A B) ≤ 30
      · rw [if_pos (by rw [nI_lit 30, nJ_le (by omega) (by omega)]; exact hz)]
        have e1 : mkAns w A B = nI (tms (mkX w A B)).length := if_pos hz
        have e2 : mkNew R σ w A B = rmPut R σ (sdOf (mkX w A B)) := if_pos hz
        rw [e1, e2] at kk
        refine ⟨so_0, tt_mono (c_put (d := d) hC4 ⟨hB.2.1, hB.2.2.1⟩ t4 hσ g5 hz (fun s5 v1 v2 v3 => ?_)) (by omega) (fun _ _ q => q)⟩
        rw [rt_some]
        refine b_119_137 (kk s5 v1 ⟨tA_tc v2, ?_, ?_⟩ (fun i hi => ⟨((v3 i (Or.inl hi)).1).trans (o4 i (by omega)), ((v3 i (Or.inl hi)).2).trans (e4r i (by omega))⟩))
        · rw [(v3 26 (by decide)).1]; exact hA4.2.1
        · rw [(v3 35 (by decide)).1]; exact hA4.2.2
      · rw [if_neg (by rw [nI_lit 30, nJ_le (by omega) (by omega)]; exact hz)]
        have e1 : mkAns w A B = -1 := if_neg hz
        have e2 : mkNew R σ w A B = R := if_neg hz
        rw [e1, e2] at kk
        exact kk s4 hC4 hA4 (fun i hi => ⟨o4 i (by omega), e4r i (by omega)⟩)
    refine b_119_55 ⟨61, ⟨so_0, rp_0_8 hP⟩, 83, ⟨so_61, rp_61_2 hP⟩, 7, 4, 94 + 2 * k1, ⟨hsl.1, inR_nI h1 (by decide), by rw [nI_cl (by omega)]; exact (hsl.2 k1 h1).1⟩, 61, ⟨so_0, rp_0_8 hP⟩, 83, ⟨so_61, rp_61_2 hP⟩, ?_⟩
    by_cases hb : w = 1 ∨ w = 2
    · rw [if_neg (fun e => (hx5.mp e) hb), hx4 hb]
      rw [hx4 hb] at at84
      exact at84
    · rw [if_pos (hx5.mpr hb)]
      have := hk hb
      rw [this] at at84
      exact at84
  have at15 : ∀ x5 : Int32, (x5 = 0 ↔ ¬ (w = 1 ∨ w = 2)) → tT (yY L xs) (d + 174) 119 15 [.ref 0, .int (nI σ), .int (nI w), .int (nI k1), .int x4, .null, .null] [.int x5] s K := by
    intro x5 hx5
    refine b_119_15 (c_isSide (fun _ _ _ => ?_) (fun hn => absurd rfl (hn σ hσ)))
    rw [rt_some]
    refine b_119_21 ?_
    rw [if_neg (by decide), if_neg (nI_nn (by omega)), if_neg (by rw [nI_lit 3, nJ_lt (by omega) (by omega)]; omega)]
    refine c_isSlot (fun _ _ _ => ?_) (fun hn => absurd rfl (hn k1 h1))
    rw [rt_some]
    refine b_119_37 ?_
    rw [if_neg (by decide)]
    by_cases hb : w = 1 ∨ w = 2
    · rw [if_neg (fun e => (hx5.mp e) hb)]
      refine c_isSlot (fun _ _ _ => ?_) (fun hn => absurd (hx4 hb) (hn k2 h2))
      rw [rt_some]
      refine b_119_50 ?_
      rw [if_pos (by decide)]
      exact at55 x5 hx5
    · rw [if_pos (hx5.mpr hb)]
      exact at55 x5 hx5
  refine b_119_0 ?_
  by_cases w1 : w = 1
  · rw [if_pos (show nI w = 1 by rw [w1]; rfl)]
    exact b_119_10 (at15 1 ⟨fun e => absurd e (by decide), fun q => absurd (Or.inl w1) q⟩)
  · rw [if_neg (show ¬ nI w = 1 from fun e => w1 ((nJ_eq (b := 1) (by omega) (by decide)).mp e))]
    by_cases w2 : w = 2
    · rw [if_neg (show ¬ ¬ nI w = 2 from fun q => q (by rw [w2]; rfl))]
      exact b_119_10 (at15 1 ⟨fun e => absurd e (by decide), fun q => absurd (Or.inr w2) q⟩)
    · rw [if_pos (show ¬ nI w = 2 from fun e => w2 ((nJ_eq (b := 2) (by omega) (by decide)).mp e))]
      exact at15 0 ⟨fun _ q => q.elim w1 w2, fun _ => rfl⟩
/-- no such side, what, slot -/
def mkNo (a1 a2 a3 a4 : Int32) : Prop := (∀ k, k < 2 → ¬ a1 = nI k) ∨ (∀ k, k < 4 → ¬ a2 = nI k) ∨ (∀ k, k < 4 → ¬ a3 = nI k) ∨ ((a2 = 1 ∨ a2 = 2) ∧ ∀ k, k < 4 → ¬ a4 = nI k)
theorem in4 {a : Int32} (h1 : ¬ a < 0) (h2 : ¬ (3 : Int32) < a) : ∃ k, k < 4 ∧ a = nI k := by
  obtain ⟨n, hn, rfl⟩ := i32_ex h1
  rw [nI_lit 3, nJ_lt (by omega) hn] at h2
  exact ⟨n, by omega, rfl⟩
theorem c_make_no {a1 a2 a3 a4 : Int32} (hC : simC s R I) (hA : tA s.1) (h : mkNo a1 a2 a3 a4) : doC2 (yY L xs) (d + 1) 119 [.ref 0, .int a1, .int a2, .int a3, .int a4, .null, .null] s R I (some (-1)) R I := by
  intro K kk
  have fin : K (some (-1)) s := kk s hC hA (fun _ _ => ⟨rfl, rfl⟩)
  have at15 : ∀ x5 : Int32, (x5 = 0 ↔ ¬ (a2 = 1 ∨ a2 = 2)) → tT (yY L xs) (d + 1) 119 15 [.ref 0, .int a1, .int a2, .int a3, .int a4, .null, .null] [.int x5] s K := by
    intro x5 hx5
    refine b_119_15 (c_isSide (fun k hk e => ?_) (fun _ => ?_))
    · rw [rt_some]
      refine b_119_21 ?_
      rw [if_neg (by decide)]
      by_cases h1 : a2 < 0
      · rw [if_pos h1]; exact fin
      · rw [if_neg h1]
        by_cases h2 : (3 : Int32) < a2
        · rw [if_pos h2]; exact fin
        · rw [if_neg h2]
          obtain ⟨q, hq, eq⟩ := in4 h1 h2
          refine c_isSlot (fun k3 hk3 e3 => ?_) (fun _ => ?_)
          · rw [rt_some]
            refine b_119_37 ?_
            rw [if_neg (by decide)]
            rcases h with h | h | h | ⟨h, h'⟩
            · exact absurd e (h k hk)
            · exact absurd eq (h q hq)
            · exact absurd e3 (h k3 hk3)
            · rw [if_neg (fun e => (hx5.mp e) h)]
              refine c_isSlot (fun k4 hk4 e4 => absurd e4 (h' k4 hk4)) (fun _ => ?_)
              rw [rt_some]
              refine b_119_50 ?_
              rw [if_neg (fun q => q rfl)]; exact fin
          · rw [rt_some]
            refine b_119_37 ?_
            rw [if_pos rfl]; exact fin
    · rw [rt_some]
      refine b_119_21 ?_
      rw [if_pos rfl]; exact fin
  refine b_119_0 ?_
  by_cases w1 : a2 = 1
  · rw [if_pos w1]
    exact b_119_10 (at15 1 ⟨fun e => absurd e (by decide), fun q => absurd (Or.inl w1) q⟩)
  · rw [if_neg w1]
    by_cases w2 : a2 = 2
    · rw [if_neg (fun q => q w2)]
      exact b_119_10 (at15 1 ⟨fun e => absurd e (by decide), fun q => absurd (Or.inr w2) q⟩)
    · rw [if_pos w2]
      exact at15 0 ⟨fun _ q => q.elim w1 w2, fun _ => rfl⟩
end MA
