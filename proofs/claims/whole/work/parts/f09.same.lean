/-! SAME; a search on trial -/
theorem srch_012 (F0 F1 : List Cond) : ∀ q C D, (srch F0 F1 q C D).1 = 0 ∨ (srch F0 F1 q C D).1 = 1 ∨ (srch F0 F1 q C D).1 = 2 := by
  intro q
  induction q with
  | zero => intro C D; exact Or.inl rfl
  | succ q ih =>
    intro C D
    unfold srch
    split
    · exact Or.inl rfl
    · split
      · exact ih _ _
      · split
        · exact Or.inr (Or.inl rfl)
        · split
          · exact ih _ _
          · exact Or.inr (Or.inr rfl)
section SM
variable {L : Nat} {xs : Nat → Int32} {d : Nat} {s : sT} {K : Option Int32 → sT → Prop} {R : rmT} {I : Nat → Option rmT} {X0 X1 : Cond}
theorem r_tried {p q : Nat} (hR : simR s R I) (hI : ∀ k R', k < 2 → I k = some R' → rmB gD R') (hB : rmB gD R) (h0 : cn X0 ∧ z0 X0 ≤ 30) (h1 : cn X1 ∧ z0 X1 ≤ 30) (t0 : txR (s.1 187) p (txL (sp X0 0))) (t1 : txR (s.1 187) q (txL (sp X1 0))) (hp : p ≤ 1000) (hq : q ≤ 1000)
    (hK : ∀ s', simR s' R I → (∀ i, i < 186 → s'.1 i = s.1 i ∧ s'.2 i = s.2 i) → K (some (srR X0 X1).1) s') : tT (yY L xs) (d + 10) 192 0 [.ref 186, .int (nI p), .int (nI q)] [] s K := by
  obtain ⟨p1, p2, p3⟩ := hR.2.2.1
  refine b_192_0 ⟨so_186, tt_mono (r_laysBoth (d := d) hR.1 h0.1 h0.2 h1.1 h1.2 t0 t1 hp hq (fun s1 T g1 g2 g3 g4 g5 g6 => ?_)) (by omega) (fun _ _ q => q)⟩
  rw [rt_none]
  refine b_192_6 ⟨so_186, tt_mono (r_searches (d := d) (b := 10689) ⟨g1, by omega, g5, g6⟩ h0.1 h0.2 (by decide) (fun s2 f2 hCI hsr hap => ?_)) (by omega) (fun _ _ q => q)⟩
  rw [rt_some]
  have o : ∀ z, z ≠ 187 → z ≠ 186 → z < 190 → s2.1 z = s.1 z := fun z a c b => (f2.2.1 z a (by omega)).trans (g4.2.1 z (by omega) (by omega))
  have o6 : ∀ z, z ≤ 4 → s2.1 186 z = s.1 186 z := fun z hz => by rw [f2.2.1 186 (by decide) (by decide)]; exact g4.2.2 z hz
  have o7 : ∀ j, (j < 10689 ∨ 21378 ≤ j) → s2.1 187 j = s.1 187 j := fun j hj => by rw [f2.2.2 j (by omega), g4.2.1 187 (by decide) (by decide)]
  refine b_192_13 (hK s2 ?_ (fun i hi => ⟨o i (by omega) (by omega) (by omega), by rw [f2.1, g4.1]⟩))
  exact simR_mk hR hI (f2.1.trans g4.1) (fun t ht => by rw [o 188 (by decide) (by decide) (by decide)]; exact p2 t ht) (o 189 (by decide) (by decide) (by decide)) (by rw [o6 3 (by decide)]; exact p1) (by rw [o6 4 (by decide)]; exact p3) (fun t ht => o7 t (by omega)) (rmR_off gD_sdB hR.2.1 hB (fun j _ hj => o7 j (by omega)))
def smA (a b : Int32) : Int32 := if a = 1 then 0 else if b = 1 then 0 else if a = 2 then 2 else if b = 2 then 2 else 1
/-- a run of the class into the lines for trials -/
theorem c_trial {c0 c1 : Nat} (hC : simC s R I) (x0 : sdX L xs s c0 X0) (x1 : sdX L xs s c1 X1) (hc0 : c0 = 19 ∨ c0 = 28 ∨ c0 = 65 ∨ c0 = 74) (hc1 : c1 = 19 ∨ c1 = 28 ∨ c1 = 65 ∨ c1 = 74)
    (hK : ∀ s', simC s' R I → (∀ z, z ≠ 47 → s'.2 z = s.2 z) → (∀ z, ¬ (37 ≤ z ∧ z ≤ 54) → s'.1 z = s.1 z) → K (some (srR X0 X1).1) s') : tT (yY L xs) (d + 5) 32 0 [.ref 47, .ref c0, .ref c1, .ref 37, .null, .null] [] s K := by
  refine c_run (d := d) hC.1 (Or.inl rfl) x0 x1 hc0 hc1 (fun s' a b c e g => hK s' ?_ a (fun z hz => c z (by omega) (by omega)))
  exact simC_low hC b (a 64 (by decide)) (fun i x y => c i (by omega) (by omega))
theorem c_same (hC : simC s R I) (h0 : cn X0 ∧ z0 X0 ≤ 30 ∧ R.2.2.1 = sdOf X0) (h1 : cn X1 ∧ z0 X1 ≤ 30 ∧ R.2.2.2.1 = sdOf X1) : doC (yY L xs) (d + 6) 134 [.ref 0, .null, .null] s R I (some (smA (srR X0 X1).1 (srR X1 X0).1)) R I := by
  intro K kk
  have hP := hC.1
  obtain ⟨c0, hc0, hx0, hs0⟩ := now_side2 (L := L) (xs := xs) (σ := 0) hC (by decide) (show sideOf R 0 = _ from h0.2.2) h0.1 h0.2.1
  obtain ⟨c1, hc1, hx1, hs1⟩ := now_side2 (L := L) (xs := xs) (σ := 1) hC (by decide) (show sideOf R 1 = _ from h1.2.2) h1.1 h1.2.1
  refine b_134_0 ⟨47, ⟨so_0, rp_0_2 hP⟩, 61, ⟨so_0, rp_0_8 hP⟩, 64, ⟨so_61, rp_61_1 hP⟩, 5, 2, c0, ⟨sq_64, inR_nI (k := 0) (by decide) (by decide), hc0⟩, 61, ⟨so_0, rp_0_8 hP⟩, 64, ⟨so_61, rp_61_1 hP⟩, 5, 2, c1, ⟨sq_64, inR_nI (k := 1) (by decide) (by decide), hc1⟩, 37, ⟨so_0, rp_0_7 hP⟩, so_47, c_trial (d := d) hC hx0 hx1 (by omega) (by omega) (fun s1 hC1 a1 b1 => ?_)⟩
  rw [rt_some]
  have hP1 := hC1.1
  obtain ⟨k0, hk0, hy0, ht0⟩ := now_side2 (L := L) (xs := xs) (σ := 0) hC1 (by decide) (show sideOf R 0 = _ from h0.2.2) h0.1 h0.2.1
  obtain ⟨k1, hk1, hy1, ht1⟩ := now_side2 (L := L) (xs := xs) (σ := 1) hC1 (by decide) (show sideOf R 1 = _ from h1.2.2) h1.1 h1.2.1
  refine b_134_29 ⟨47, ⟨so_0, rp_0_2 hP1⟩, 61, ⟨so_0, rp_0_8 hP1⟩, 64, ⟨so_61, rp_61_1 hP1⟩, 5, 2, k1, ⟨sq_64, inR_nI (k := 1) (by decide) (by decide), hk1⟩, 61, ⟨so_0, rp_0_8 hP1⟩, 64, ⟨so_61, rp_61_1 hP1⟩, 5, 2, k0, ⟨sq_64, inR_nI (k := 0) (by decide) (by decide), hk0⟩, 37, ⟨so_0, rp_0_7 hP1⟩, so_47, c_trial (d := d) hC1 hy1 hy0 (by omega) (by omega) (fun s2 hC2 a2 b2 => ?_)⟩
  rw [rt_some]
  have k := kk s2 hC2 (fun i hi => ⟨(b2 i (by omega)).trans (b1 i (by omega)), (a2 i (by omega)).trans (a1 i (by omega))⟩)
  refine b_134_59 ?_
  unfold smA at k
  by_cases e1 : (srR X0 X1).1 = 1
  · rw [if_pos e1] at k ⊢; exact k
  rw [if_neg e1] at k ⊢
  by_cases e2 : (srR X1 X0).1 = 1
  · rw [if_pos e2] at k
    rw [if_neg (fun q => q e2)]; exact k
  rw [if_neg e2] at k
  rw [if_pos e2]
  by_cases e3 : (srR X0 X1).1 = 2
  · rw [if_pos e3] at k ⊢; exact k
  rw [if_neg e3] at k ⊢
  by_cases e4 : (srR X1 X0).1 = 2
  · rw [if_pos e4] at k
    rw [if_neg (fun q => q e4)]; exact k
  · rw [if_neg e4] at k
    rw [if_pos e4]; exact k
theorem r_same (hR : simR s R I) (hI : ∀ k R', k < 2 → I k = some R' → rmB gD R') (hB : rmB gD R) (h0 : cn X0 ∧ z0 X0 ≤ 30 ∧ R.2.2.1 = sdOf X0) (h1 : cn X1 ∧ z0 X1 ≤ 30 ∧ R.2.2.2.1 = sdOf X1) : doR (yY L xs) (d + 11) 193 [.ref 186, .null, .null] s R I (some (smA (srR X0 X1).1 (srR X1 X0).1)) R I := by
  intro K kk
  have t0 : ∀ {s : sT}, simR s R I → txR (s.1 187) 0 (txL (sp X0 0)) := fun h => by have := h.2.1.1; rw [h0.2.2] at this; exact this
  have t1 : ∀ {s : sT}, simR s R I → txR (s.1 187) 31 (txL (sp X1 0)) := fun h => by have := h.2.1.2.1; rw [h1.2.2] at this; exact this
  have v0 := srch_012 (tms X0) (tms X1) 300 [(0, 1, -1, 0, 0)] []
  have v1 := srch_012 (tms X1) (tms X0) 300 [(0, 1, -1, 0, 0)] []
  refine b_193_0 ⟨so_186, r_tried (d := d) (p := 0) (q := 31) hR hI hB ⟨h0.1, h0.2.1⟩ ⟨h1.1, h1.2.1⟩ (t0 hR) (t1 hR) (by decide) (by decide) (fun s1 hR1 f1 => ?_)⟩
  rw [rt_some]
  refine b_193_7 ?_
  unfold smA at kk
  by_cases e1 : (srR X0 X1).1 = 1
  · rw [if_neg (fun q => q e1)]
    refine b_193_24 ?_
    rw [if_pos e1]
    rw [if_pos e1] at kk
    exact kk s1 hR1 f1
  rw [if_pos e1]
  rw [if_neg e1] at kk
  refine ⟨so_186, r_tried (d := d) (p := 31) (q := 0) hR1 hI hB ⟨h1.1, h1.2.1⟩ ⟨h0.1, h0.2.1⟩ (t1 hR1) (t0 hR1) (by decide) (by decide) (fun s2 hR2 f2 => ?_)⟩
  rw [rt_some]
  have k := kk s2 hR2 (fun i hi => ⟨(f2 i hi).1.trans (f1 i hi).1, (f2 i hi).2.trans (f1 i hi).2⟩)
  refine b_193_24 ?_
  rw [if_neg e1]
  by_cases e2 : (srR X1 X0).1 = 1
  · rw [if_pos e2] at k
    rw [if_neg (fun q => q e2)]; exact k
  rw [if_neg e2] at k
  rw [if_pos e2]
  by_cases e3 : (srR X0 X1).1 = 2
  · rw [if_pos e3] at k
    rw [if_pos (by rw [e3]; decide)]; exact k
  rw [if_neg e3] at k
  have e30 : (srR X0 X1).1 = 0 := by
    rcases v0 with q | q | q
    · exact q
    · exact absurd q e1
    · exact absurd q e3
  rw [if_neg (fun q => q e30)]
  by_cases e4 : (srR X1 X0).1 = 2
  · rw [if_pos e4] at k
    rw [if_pos (by rw [e4]; decide)]; exact k
  · rw [if_neg e4] at k
    have e40 : (srR X1 X0).1 = 0 := by
      rcases v1 with q | q | q
      · exact q
      · exact absurd q e2
      · exact absurd q e4
    rw [if_neg (fun q => q e40)]; exact k
theorem pr_same : pairOK (yY L xs) (Sim gD) (d + 11) 134 193 [.ref 0, .null, .null] [.ref 186, .null, .null] true := by
  refine pair_of fun s R I hC hR hB hI => ?_
  obtain ⟨X0, X1, h0, h1⟩ := both_X hB
  exact ⟨_, R, I, rfl, hB, hI, c_same (d := d + 5) hC h0 h1, fun _ hR1 => r_same hR1 hI hB h0 h1⟩
end SM
