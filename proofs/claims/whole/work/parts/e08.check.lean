/-! CHECK, WHY -/
/-- the first line that is not allowed: (line, reason, letter, part) -/
def bdA (F0 F1 : List Cond) (N : lnT) : Int32 × Int32 × Int32 × Int32 :=
  if N.1.1 = 0 then (-2, 0, -1, -1) else match ff (fun i => decide ((rsn F0 F1 N i).1 ≠ 0)) N.1.1 0 with
  | some i => (nI i, rsn F0 F1 N i)
  | none => if N.1.2.1 0 = 0 ∧ (N.1.2.2.1 0 = 0 ∨ N.1.2.2.1 0 = 1) then (-1, 0, -1, -1) else (0, 6, -1, -1)
theorem ff_in {p : Nat → Bool} : ∀ {q k i : Nat}, ff p q k = some i → k ≤ i ∧ i < k + q
  | 0, _, _, h => by cases h
  | q + 1, k, i, h => by
    rw [ff_s] at h
    by_cases e : p k = true
    · rw [if_pos e] at h; cases h; omega
    · rw [if_neg e] at h
      have := ff_in h
      omega
theorem and_m2 {S : Int32} : S &&& -2 = 0 ↔ S = 0 ∨ S = 1 := by
  constructor
  · intro h
    have hb : ∀ t, t < 32 → 1 ≤ t → bt S t = false := fun t ht h1 => by
      have e : bt (S &&& -2) t = false := by rw [h, bt_zero]
      rw [bt_and, (show ∀ t, t < 32 → 1 ≤ t → bt (-2) t = true by decide +kernel) t ht h1, Bool.and_true] at e
      exact e
    cases h0 : bt S 0 with
    | false =>
      refine Or.inl (bt_ext (fun t ht => ?_))
      rw [bt_zero]
      by_cases e : t = 0
      · subst e; exact h0
      · exact hb t ht (by omega)
    | true =>
      refine Or.inr (bt_ext (fun t ht => ?_))
      rw [bt_1 t ht]
      by_cases e : t = 0
      · subst e; rw [h0]; rfl
      · rw [hb t ht (by omega), decide_eq_false e]
  · rintro (rfl | rfl) <;> decide
theorem rsn_0 {F0 F1 : List Cond} {N : lnT} {i : Nat} (h : (rsn F0 F1 N i).1 = 0) : (rsn F0 F1 N i).2 = (-1, -1) := by
  unfold rsn at h ⊢
  split at h
  · cases h
  · rename_i q; rw [if_neg q]
    unfold rs1 at h ⊢
    split at h
    · cases h
    · rename_i q; rw [if_neg q]
      split at h
      · cases h
      · rename_i q; rw [if_neg q]
        split at h
        · rename_i q; rw [if_pos q]; split <;> rfl
        · rename_i q; rw [if_neg q]
          unfold rs2 at h ⊢
          split at h
          · cases h
          · rename_i q; rw [if_neg q]
            split at h
            · cases h
            · split at h
              · cases h
              · first
                | rfl
                | (rename_i q; rw [q])
theorem rsn_pos (F0 F1 : List Cond) (N : lnT) (i : Nat) : (rsn F0 F1 N i).1 = 0 ∨ ¬ (rsn F0 F1 N i).1 ≤ 0 := by
  unfold rsn
  split
  · exact Or.inr (by decide)
  · unfold rs1
    split
    · exact Or.inr (by decide)
    · split
      · exact Or.inr (by decide)
      · split
        · split
          · exact Or.inl rfl
          · exact Or.inr (by decide)
        · unfold rs2
          split
          · exact Or.inr (by decide)
          · split
            · exact Or.inr (show ¬ (4 : Int32) ≤ 0 by decide)
            · split
              · exact Or.inr (show ¬ (5 : Int32) ≤ 0 by decide)
              · exact Or.inl rfl
theorem sp_simR' {s s1 : sT} {R : rmT} {I : Nat → Option rmT} (hR : simR s R I) (hI : ∀ k R', k < 2 → I k = some R' → rmB gD R') (f : f3 s s1) : simR s1 R I := by
  obtain ⟨p1, p2, p3⟩ := hR.2.2.1
  have o1 := f.2.1
  exact simR_mk hR hI f.1 (fun t ht => by rw [o1 188 (by decide)]; exact p2 t ht) (o1 189 (by decide)) (by rw [f.2.2 3 (by decide)]; exact p1) (by rw [f.2.2 4 (by decide)]; exact p3) (fun t _ => by rw [o1 187 (by decide)]) (by rw [o1 187 (by decide)]; exact hR.2.1)
section CK
variable {L : Nat} {xs : Nat → Int32} {d : Nat} {s : sT} {K : Option Int32 → sT → Prop} {R : rmT} {I : Nat → Option rmT} {X0 X1 : Cond} {N : lnT} {c0 c1 : Nat} {T : List Cond}
theorem r_bad (hR : simR s R I) (hB : rmB gD R) (hI : ∀ k R', k < 2 → I k = some R' → rmB gD R') (h0 : cn X0 ∧ z0 X0 ≤ 30 ∧ R.2.2.1 = sdOf X0) (h1 : cn X1 ∧ z0 X1 ≤ 30 ∧ R.2.2.2.1 = sdOf X1) (hne : R.2.2.2.2.2.1.1 ≠ 0)
    (hK : ∀ s', simR s' R I → (∀ i, i < 186 → s'.1 i = s.1 i ∧ s'.2 i = s.2 i) → s'.1 186 44 = (bdA (tms X0) (tms X1) R.2.2.2.2.2).2.1 → s'.1 186 42 = (bdA (tms X0) (tms X1) R.2.2.2.2.2).2.2.1 → s'.1 186 43 = (bdA (tms X0) (tms X1) R.2.2.2.2.2).2.2.2 → K (some (bdA (tms X0) (tms X1) R.2.2.2.2.2).1) s') : tT (yY L xs) (d + 10) 205 0 [.ref 186, .null] [] s K := by
  refine b_205_0 ⟨so_186, r_lay (d := d) hR hI h0.1 h0.2.1 h1.1 h1.2.1 h0.2.2 h1.2.2 (fun s1 T g1 g2 g3 g4 g5 g6 g7 => ?_)⟩
  rw [rt_none]
  have hQ : rQ s1 T X0 X1 R.2.2.2.2.2 := ⟨g1, g2, g5, g6, g7.2.1.2.2.2, hB.2.2.2.2⟩
  have fin : ∀ (v : Int32 × Int32 × Int32 × Int32) (s' : sT), bdA (tms X0) (tms X1) R.2.2.2.2.2 = v → f3 s1 s' → s'.1 186 44 = v.2.1 → s'.1 186 42 = v.2.2.1 → s'.1 186 43 = v.2.2.2 → K (some v.1) s' := fun v s' e f a b c => by
    subst e
    refine hK s' (sp_simR' g7 hI f) (fun i hi => ?_) a b c
    rw [f.2.1 i (by omega), f.1, g4.1, g4.2.1 i (by omega) (by omega)]
    exact ⟨rfl, rfl⟩
  generalize R.2.2.2.2.2 = N at hQ fin hne
  obtain ⟨b1, b2, b3⟩ := hQ.2.2.2.2.2
  have ebd : bdA (tms X0) (tms X1) N = (match ff (fun i => decide ((rsn (tms X0) (tms X1) N i).1 ≠ 0)) N.1.1 0 with | some i => (nI i, rsn (tms X0) (tms X1) N i) | none => if N.1.2.1 0 = 0 ∧ (N.1.2.2.1 0 = 0 ∨ N.1.2.2.1 0 = 1) then (-1, 0, -1, -1) else (0, 6, -1, -1)) := if_neg hne
  have loop : ∀ q k (s2 : sT), q + k = N.1.1 → f3 s1 s2 → ff (fun i => decide ((rsn (tms X0) (tms X1) N i).1 ≠ 0)) q k = ff (fun i => decide ((rsn (tms X0) (tms X1) N i).1 ≠ 0)) N.1.1 0 → tT (yY L xs) (d + 10) 205 9 [.ref 186, .int (nI k)] [] s2 K := by
    intro q
    induction q with
    | zero =>
      intro k s2 hk f2 ef
      have hQ2 := rQ_f3 hQ f2
      obtain ⟨l1, l4, l5, -⟩ := hQ2.2.2.2.2.1
      simp only [Nat.zero_add] at l1 l4 l5
      have hM := hQ2.1.1
      rw [← ef] at ebd
      refine b_205_9 ⟨187, ⟨so_186, rm_186_0 hM⟩, 42882, ⟨sa_187, inR_nI (k := 186) (by decide) (by decide)⟩, ?_⟩
      rw [show (186 : Int32).toNatClampNeg = 186 from rfl, l1, if_pos (by rw [nJ_le (by omega) (by omega)]; omega)]
      refine ⟨187, ⟨so_186, rm_186_0 hM⟩, 42882, ⟨sa_187, inR_nI (k := 186) (by decide) (by decide)⟩, ?_⟩
      rw [l1, if_neg (show ¬ nI N.1.1 = 0 from fun q => hne ((nJ_eq (b := 0) (by omega) (by decide)).mp q))]
      refine ⟨187, ⟨so_186, rm_186_0 hM⟩, 42882, ⟨sa_187, inR_nI (k := 187) (by decide) (by decide)⟩, ?_⟩
      rw [show (187 : Int32).toNatClampNeg = 187 + 0 from rfl, l4 0 (by omega)]
      have bad : ¬ (N.1.2.1 0 = 0 ∧ (N.1.2.2.1 0 = 0 ∨ N.1.2.2.1 0 = 1)) → tT (yY L xs) (d + 10) 205 85 [.ref 186, .int (nI k)] [] s2 K := fun hn => by
        refine b_205_85 (b_205_86 ⟨so_186, so_186, ?_⟩)
        rw [if_pos rfl]
        refine b_205_108 ⟨so_186, ?_⟩
        rw [if_pos rfl]
        rw [show (ff _ 0 k) = none from rfl] at ebd
        simp only at ebd
        rw [if_neg hn] at ebd
        refine fin _ _ ebd (f3_put (f3_put (f3_put f2 (by decide)) (by decide)) (by decide)) ?_ ?_ ?_
        · rw [pV_1, if_pos ⟨rfl, rfl⟩]
        · rw [pV_1, if_neg (by decide), pV_1, if_neg (by decide), pV_1, if_pos ⟨rfl, rfl⟩]
        · rw [pV_1, if_neg (by decide), pV_1, if_pos ⟨rfl, rfl⟩]
      by_cases e1 : N.1.2.1 0 = 0
      case neg =>
        rw [if_pos e1]
        exact bad (fun q => e1 q.1)
      rw [if_neg (fun q => q e1)]
      refine ⟨187, ⟨so_186, rm_186_0 hM⟩, 42882, ⟨sa_187, inR_nI (k := 487) (by decide) (by decide)⟩, ?_⟩
      rw [show (487 : Int32).toNatClampNeg = 487 + 0 from rfl, l5 0 (by omega)]
      by_cases e2 : N.1.2.2.1 0 &&& -2 = 0
      case neg =>
        rw [if_pos e2]
        exact bad (fun q => e2 (and_m2.mpr q.2))
      rw [if_neg (fun q => q e2)]
      refine b_205_81 (b_205_86 ⟨so_186, so_186, ?_⟩)
      rw [if_neg (by decide)]
      refine b_205_108 ⟨so_186, ?_⟩
      rw [if_neg (by decide)]
      rw [show (ff _ 0 k) = none from rfl] at ebd
      simp only at ebd
      rw [if_pos ⟨e1, and_m2.mp e2⟩] at ebd
      refine fin _ _ ebd (f3_put (f3_put (f3_put f2 (by decide)) (by decide)) (by decide)) ?_ ?_ ?_
      · rw [pV_1, if_pos ⟨rfl, rfl⟩]
      · rw [pV_1, if_neg (by decide), pV_1, if_neg (by decide), pV_1, if_pos ⟨rfl, rfl⟩]
      · rw [pV_1, if_neg (by decide), pV_1, if_pos ⟨rfl, rfl⟩]
    | succ q ih =>
      intro k s2 hk f2 ef
      have hQ2 := rQ_f3 hQ f2
      have l1 := hQ2.2.2.2.2.1.1
      simp only [Nat.zero_add] at l1
      have hM := hQ2.1.1
      refine b_205_9 ⟨187, ⟨so_186, rm_186_0 hM⟩, 42882, ⟨sa_187, inR_nI (k := 186) (by decide) (by decide)⟩, ?_⟩
      rw [show (186 : Int32).toNatClampNeg = 186 from rfl, l1, if_neg (by rw [nJ_le (by omega) (by omega)]; omega)]
      refine ⟨so_186, tt_mono (r_reason (d := d) hQ2 (by omega) h0.1 h0.2.1 h1.1 h1.2.1 (fun s3 f q42 q43 => ?_)) (by omega) (fun _ _ q => q)⟩
      rw [rt_some]
      refine b_205_27 ⟨so_186, so_186, ?_⟩
      have e44 : (pV s3 186 44 (rsn (tms X0) (tms X1) N k).1).1 186 44 = (rsn (tms X0) (tms X1) N k).1 := by rw [pV_1, if_pos ⟨rfl, rfl⟩]
      rw [e44]
      have f4 := f3_put (k := 44) (v := (rsn (tms X0) (tms X1) N k).1) (f3_trans f2 f) (by decide)
      rw [ff_s] at ef
      have hpos := rsn_pos (tms X0) (tms X1) N k
      by_cases er : (rsn (tms X0) (tms X1) N k).1 = 0
      · rw [if_pos (by rw [er]; decide)]
        rw [decide_eq_false (fun q => q er), if_neg (by decide)] at ef
        rw [← nI_succ k]
        exact ih (k + 1) _ (by omega) f4 ef
      · rw [if_neg (by rcases hpos with q | q; exact absurd q er; exact q)]
        rw [decide_eq_true er, if_pos rfl] at ef
        rw [← ef] at ebd
        refine fin _ _ ebd f4 ?_ ?_ ?_
        · exact e44
        · rw [pV_1, if_neg (by decide)]; exact q42
        · rw [pV_1, if_neg (by decide)]; exact q43
  exact b_205_7 (loop _ 0 s1 rfl (f3_refl s1) rfl)
theorem c_startsWell (h : kQ L xs s c0 c1 X0 X1 N) (hne : N.1.1 ≠ 0) (h1 : (N.1.2.1 0 = 0 ∧ (N.1.2.2.1 0 = 0 ∨ N.1.2.2.1 0 = 1)) → K (some 1) s) (h0 : ¬ (N.1.2.1 0 = 0 ∧ (N.1.2.2.1 0 = 0 ∨ N.1.2.2.1 0 = 1)) → K (some 0) s) : tT (yY L xs) d 2 0 [.ref 55] [] s K := by
  obtain ⟨hP, ⟨r0, r1, r2⟩, -, -, ⟨-, l4, l5, -⟩, hB⟩ := h
  have b1 := hB.1
  refine b_2_0 ⟨84, ⟨so_55, r2⟩, 85, ⟨so_84, rp_84_0 hP⟩, 300, ⟨sa_85, inR_nI (k := 0) (by decide) (by decide)⟩, ?_⟩
  rw [show (0 : Int32).toNatClampNeg = 0 from rfl, l4 0 (by omega)]
  by_cases e1 : N.1.2.1 0 = 0
  case neg => rw [if_pos e1]; exact h0 (fun q => e1 q.1)
  rw [if_neg (fun q => q e1)]
  refine ⟨84, ⟨so_55, r2⟩, 86, ⟨so_84, rp_84_1 hP⟩, 300, ⟨sa_86, inR_nI (k := 0) (by decide) (by decide)⟩, ?_⟩
  rw [l5 0 (by omega)]
  by_cases e2 : N.1.2.2.1 0 = 0
  · rw [if_pos e2]; exact h1 ⟨e1, Or.inl e2⟩
  · rw [if_neg e2]
    refine ⟨84, ⟨so_55, r2⟩, 86, ⟨so_84, rp_84_1 hP⟩, 300, ⟨sa_86, inR_nI (k := 0) (by decide) (by decide)⟩, ?_⟩
    rw [l5 0 (by omega)]
    by_cases e3 : N.1.2.2.1 0 = 1
    · rw [if_neg (fun q => q e3)]; exact h1 ⟨e1, Or.inr e3⟩
    · rw [if_pos e3]; exact h0 (fun q => q.2.elim e2 e3)
theorem c_look (h : kQ L xs s c0 c1 X0 X1 N) (hK : ∀ s', f5 s s' → s'.1 55 3 = (bdA (tms X0) (tms X1) N).1 → s'.1 55 4 = (bdA (tms X0) (tms X1) N).2.1 → s'.1 55 5 = (bdA (tms X0) (tms X1) N).2.2.1 → s'.1 55 6 = (bdA (tms X0) (tms X1) N).2.2.2 → K none s')
    (e4 : s.1 55 4 = 0) (e5 : s.1 55 5 = -1) (e6 : s.1 55 6 = -1) {u1 u2 u3 : Nat} : tT (yY L xs) (d + 6) 1 53 [.ref 55, .ref u1, .ref u2, .ref u3, .int 0] [] (pV s 55 3 (if N.1.1 = 0 then -2 else -1)) K := by
  have fin : ∀ (v : Int32 × Int32 × Int32 × Int32) (s' : sT), bdA (tms X0) (tms X1) N = v → f5 s s' → s'.1 55 3 = v.1 → s'.1 55 4 = v.2.1 → s'.1 55 5 = v.2.2.1 → s'.1 55 6 = v.2.2.2 → K none s' := fun v s' e f a b c g => by
    subst e; exact hK s' f a b c g
  have b1 := h.2.2.2.2.2.1
  by_cases hne : N.1.1 = 0
  · rw [if_pos hne]
    have hQ1 := kQ_f5 h (f5_put (k := 3) (v := -2) (f5_refl s))
    have g3 : (pV s 55 3 (-2)).1 55 3 = -2 := by rw [pV_1, if_pos ⟨rfl, rfl⟩]
    refine b_1_53 ⟨84, ⟨so_55, hQ1.2.1.2.2⟩, so_84, ?_⟩
    rw [hQ1.2.2.2.2.1.1.1, if_pos (by rw [hne]; decide)]
    refine b_1_102 ⟨so_55, ?_⟩
    rw [g3, if_pos (by decide)]
    refine fin (-2, 0, -1, -1) _ (if_pos hne) (f5_put (f5_refl s)) g3 ?_ ?_ ?_
    · rw [pV_1, if_neg (by decide)]; exact e4
    · rw [pV_1, if_neg (by decide)]; exact e5
    · rw [pV_1, if_neg (by decide)]; exact e6
  rw [if_neg hne]
  have ebd : bdA (tms X0) (tms X1) N = (match ff (fun i => decide ((rsn (tms X0) (tms X1) N i).1 ≠ 0)) N.1.1 0 with | some i => (nI i, rsn (tms X0) (tms X1) N i) | none => if N.1.2.1 0 = 0 ∧ (N.1.2.2.1 0 = 0 ∨ N.1.2.2.1 0 = 1) then (-1, 0, -1, -1) else (0, 6, -1, -1)) := if_neg hne
  have loop : ∀ q k (s2 : sT), q + k = N.1.1 → f5 s s2 → s2.1 55 3 = -1 → s2.1 55 4 = 0 → s2.1 55 5 = -1 → s2.1 55 6 = -1 → ff (fun i => decide ((rsn (tms X0) (tms X1) N i).1 ≠ 0)) q k = ff (fun i => decide ((rsn (tms X0) (tms X1) N i).1 ≠ 0)) N.1.1 0 → tT (yY L xs) (d + 6) 1 53 [.ref 55, .ref u1, .ref u2, .ref u3, .int (nI k)] [] s2 K := by
    intro q
    induction q with
    | zero =>
      intro k s2 hk f2 g3 g4 g5 g6 ef
      have hQ2 := kQ_f5 h f2
      rw [← ef] at ebd
      rw [show (ff _ 0 k) = none from rfl] at ebd
      simp only at ebd
      refine b_1_53 ⟨84, ⟨so_55, hQ2.2.1.2.2⟩, so_84, ?_⟩
      rw [hQ2.2.2.2.2.1.1.1, if_pos (by rw [nJ_le (by omega) (by omega)]; omega)]
      refine b_1_102 ⟨so_55, ?_⟩
      rw [g3, if_neg (fun q => q rfl)]
      refine ⟨so_55, c_startsWell hQ2 hne (fun hw => ?_) (fun hw => ?_)⟩
      · rw [rt_some]
        rw [if_pos hw] at ebd
        refine b_1_114 ?_
        rw [if_pos (by decide)]
        exact fin _ _ ebd f2 g3 g4 g5 g6
      · rw [rt_some]
        rw [if_neg hw] at ebd
        refine b_1_114 ?_
        rw [if_neg (fun q => q rfl)]
        refine ⟨so_55, so_55, fin _ _ ebd (f5_put (f5_put f2)) ?_ ?_ ?_ ?_⟩
        · rw [pV_1, if_neg (by decide), pV_1, if_pos ⟨rfl, rfl⟩]
        · rw [pV_1, if_pos ⟨rfl, rfl⟩]
        · rw [pV_1, if_neg (by decide), pV_1, if_neg (by decide)]; exact g5
        · rw [pV_1, if_neg (by decide), pV_1, if_neg (by decide)]; exact g6
    | succ q ih =>
      intro k s2 hk f2 g3 g4 g5 g6 ef
      have hQ2 := kQ_f5 h f2
      refine b_1_53 ⟨84, ⟨so_55, hQ2.2.1.2.2⟩, so_84, ?_⟩
      rw [hQ2.2.2.2.2.1.1.1, if_neg (by rw [nJ_le (by omega) (by omega)]; omega)]
      refine ⟨so_55, ?_⟩
      rw [g3, if_neg (fun q => q rfl)]
      refine ⟨so_55, c_reason (d := d) hQ2 (by omega) g5 g6 (fun s3 f a3 a5 a6 => ?_)⟩
      rw [rt_some]
      have e44 : (pV s3 55 4 (rsn (tms X0) (tms X1) N k).1).1 55 4 = (rsn (tms X0) (tms X1) N k).1 := by rw [pV_1, if_pos ⟨rfl, rfl⟩]
      have f4 : f5 s (pV s3 55 4 (rsn (tms X0) (tms X1) N k).1) := f5_put (f5_trans f2 f)
      refine b_1_80 ⟨so_55, so_55, ?_⟩
      rw [e44]
      rw [ff_s] at ef
      by_cases er : (rsn (tms X0) (tms X1) N k).1 = 0
      · rw [if_pos er]
        rw [decide_eq_false (fun q => q er), if_neg (by decide)] at ef
        have e2 := rsn_0 er
        refine b_1_96 ?_
        rw [← nI_succ k]
        refine ih (k + 1) _ (by omega) f4 ?_ (e44.trans er) ?_ ?_ ef
        · rw [pV_1, if_neg (by decide), a3 3 (by decide)]; exact g3
        · rw [pV_1, if_neg (by decide), a5, e2]
        · rw [pV_1, if_neg (by decide), a6, e2]
      · rw [if_neg er]
        rw [decide_eq_true er, if_pos rfl] at ef
        rw [← ef] at ebd
        have hk2 : nI k ≠ -1 := fun q => by have := nI_nn (a := k) (by omega); rw [q] at this; exact this (by decide)
        generalize hs4 : pV s3 55 4 (rsn (tms X0) (tms X1) N k).1 = s4 at f4 e44 ⊢
        have g43 : (pV s4 55 3 (nI k)).1 55 3 = nI k := by rw [pV_1, if_pos ⟨rfl, rfl⟩]
        have f5' : f5 s (pV s4 55 3 (nI k)) := f5_put f4
        have hQ5 := kQ_f5 h f5'
        have done : K none (pV s4 55 3 (nI k)) := by
          refine fin _ _ ebd f5' g43 ?_ ?_ ?_
          · rw [pV_1, if_neg (by decide)]; exact e44
          · rw [pV_1, if_neg (by decide), ← hs4, pV_1, if_neg (by decide)]; exact a5
          · rw [pV_1, if_neg (by decide), ← hs4, pV_1, if_neg (by decide)]; exact a6
        refine ⟨so_55, b_1_96 (b_1_53 ⟨84, ⟨so_55, hQ5.2.1.2.2⟩, so_84, ?_⟩)⟩
        have last : tT (yY L xs) (d + 6) 1 102 [.ref 55, .ref u1, .ref u2, .ref u3, .int (nI k + 1)] [] (pV s4 55 3 (nI k)) K := by
          refine b_1_102 ⟨so_55, ?_⟩
          rw [g43, if_pos hk2]
          exact done
        split
        · exact last
        · refine ⟨so_55, ?_⟩
          rw [g43, if_pos hk2]
          exact last
  refine loop _ 0 _ rfl (f5_put (f5_refl s)) ?_ ?_ ?_ ?_ rfl
  · rw [pV_1, if_pos ⟨rfl, rfl⟩]
  · rw [pV_1, if_neg (by decide)]; exact e4
  · rw [pV_1, if_neg (by decide)]; exact e5
  · rw [pV_1, if_neg (by decide)]; exact e6
theorem rP_55 {ρ ρ' : Nat → Nat → Option Nat} (h : rP ρ) (hρ : ∀ i, i ≠ 55 → ρ' i = ρ i) : rP ρ' := by
  unfold rP at h ⊢
  simp only [hρ, ne_eq, Nat.reduceEqDiff, not_false_eq_true]
  exact h
theorem c_call (hC : simC s R I) (hB : rmB gD R) (h0 : cn X0 ∧ z0 X0 ≤ 30 ∧ R.2.2.1 = sdOf X0) (h1 : cn X1 ∧ z0 X1 ≤ 30 ∧ R.2.2.2.1 = sdOf X1) (s0 : sdX L xs s c0 X0 ∧ (c0 = 65 ∨ c0 = 74)) (s1 : sdX L xs s c1 X1 ∧ (c1 = 65 ∨ c1 = 74))
    (hK : ∀ s', simC s' R I → (∀ i, (186 ≤ i ∨ i < 9 ∨ i = 26 ∨ i = 35) → s'.1 i = s.1 i ∧ s'.2 i = s.2 i) → s'.1 55 3 = (bdA (tms X0) (tms X1) R.2.2.2.2.2).1 → s'.1 55 4 = (bdA (tms X0) (tms X1) R.2.2.2.2.2).2.1 → s'.1 55 5 = (bdA (tms X0) (tms X1) R.2.2.2.2.2).2.2.1 → s'.1 55 6 = (bdA (tms X0) (tms X1) R.2.2.2.2.2).2.2.2 → K none s') : tT (yY L xs) (d + 6) 1 0 [.ref 55, .ref c0, .ref c1, .ref 84, .null] [] s K := by
  have hN : lnC s.1 84 R.2.2.2.2.2 := by
    obtain ⟨-, ⟨a, b, -, hrm⟩, -⟩ := hC
    exact hrm.2.2.2.2.2
  refine b_1_0 ⟨so_55, so_55, so_55, so_55, so_55, so_55, ?_⟩
  have n1 : ∀ z, z ≠ 55 → (pV (pV (pV (pR (pR (pR s 55 0 (some c0)) 55 1 (some c1)) 55 2 (some 84)) 55 5 (-1)) 55 6 (-1)) 55 4 0).1 z = s.1 z := fun z hz => funext fun j => by
    rw [pV_1, if_neg (fun q => hz q.1), pV_1, if_neg (fun q => hz q.1), pV_1, if_neg (fun q => hz q.1)]; rfl
  have n2 : ∀ z, z ≠ 55 → (pV (pV (pV (pR (pR (pR s 55 0 (some c0)) 55 1 (some c1)) 55 2 (some 84)) 55 5 (-1)) 55 6 (-1)) 55 4 0).2 z = s.2 z := fun z hz => funext fun j => by
    rw [pV_2, pV_2, pV_2, pR_2, if_neg (fun q => hz q.1), pR_2, if_neg (fun q => hz q.1), pR_2, if_neg (fun q => hz q.1)]
  have q0 : (pV (pV (pV (pR (pR (pR s 55 0 (some c0)) 55 1 (some c1)) 55 2 (some 84)) 55 5 (-1)) 55 6 (-1)) 55 4 0).2 55 0 = some c0 := by
    rw [pV_2, pV_2, pV_2, pR_2, if_neg (by decide), pR_2, if_neg (by decide), pR_2, if_pos ⟨rfl, rfl⟩]
  have q1 : (pV (pV (pV (pR (pR (pR s 55 0 (some c0)) 55 1 (some c1)) 55 2 (some 84)) 55 5 (-1)) 55 6 (-1)) 55 4 0).2 55 1 = some c1 := by
    rw [pV_2, pV_2, pV_2, pR_2, if_neg (by decide), pR_2, if_pos ⟨rfl, rfl⟩]
  have q2 : (pV (pV (pV (pR (pR (pR s 55 0 (some c0)) 55 1 (some c1)) 55 2 (some 84)) 55 5 (-1)) 55 6 (-1)) 55 4 0).2 55 2 = some 84 := by
    rw [pV_2, pV_2, pV_2, pR_2, if_pos ⟨rfl, rfl⟩]
  have e4 : (pV (pV (pV (pR (pR (pR s 55 0 (some c0)) 55 1 (some c1)) 55 2 (some 84)) 55 5 (-1)) 55 6 (-1)) 55 4 0).1 55 4 = 0 := by rw [pV_1, if_pos ⟨rfl, rfl⟩]
  have e5 : (pV (pV (pV (pR (pR (pR s 55 0 (some c0)) 55 1 (some c1)) 55 2 (some 84)) 55 5 (-1)) 55 6 (-1)) 55 4 0).1 55 5 = -1 := by rw [pV_1, if_neg (by decide), pV_1, if_neg (by decide), pV_1, if_pos ⟨rfl, rfl⟩]
  have e6 : (pV (pV (pV (pR (pR (pR s 55 0 (some c0)) 55 1 (some c1)) 55 2 (some 84)) 55 5 (-1)) 55 6 (-1)) 55 4 0).1 55 6 = -1 := by rw [pV_1, if_neg (by decide), pV_1, if_pos ⟨rfl, rfl⟩]
  generalize pV (pV (pV (pR (pR (pR s 55 0 (some c0)) 55 1 (some c1)) 55 2 (some 84)) 55 5 (-1)) 55 6 (-1)) 55 4 0 = s6 at n1 n2 q0 q1 q2 e4 e5 e6 ⊢
  have hQ : kQ L xs s6 c0 c1 X0 X1 R.2.2.2.2.2 := by
    have hP6 : rP s6.2 := rP_55 hC.1 n2
    refine ⟨hP6, ⟨q0, q1, q2⟩, ⟨⟨?_, sdC_off s0.1.2.1 (fun i a b => n1 i (by omega)), s0.1.2.2⟩, s0.2⟩, ⟨⟨?_, sdC_off s1.1.2.1 (fun i a b => n1 i (by omega)), s1.1.2.2⟩, s1.2⟩, lnC_off hN (fun i a b => n1 i (by omega)), hB.2.2.2.2⟩
    · rcases s0.2 with rfl | rfl
      · exact sk_65 hP6
      · exact sk_74 hP6
    · rcases s1.2 with rfl | rfl
      · exact sk_65 hP6
      · exact sk_74 hP6
  have b1 := hB.2.2.2.2.1
  have go := c_look (d := d) (K := K) (u1 := c0) (u2 := c1) (u3 := 84) hQ (fun s' f a3 a4 a5 a6 => hK s' (simC_low hC (rP_55 hC.1 (fun z hz => by rw [f.1]; exact n2 z hz)) (by rw [f.1]; exact n2 64 (by decide)) (fun i a b => by rw [f.2 i (by omega)]; exact n1 i (by omega))) (fun i hi => ⟨by rw [f.2 i (by omega)]; exact n1 i (by omega), by rw [f.1]; exact n2 i (by omega)⟩) a3 a4 a5 a6) e4 e5 e6
  refine ⟨84, ⟨so_55, q2⟩, so_84, ?_⟩
  rw [hQ.2.2.2.2.1.1.1]
  by_cases hne : R.2.2.2.2.2.1.1 = 0
  · rw [if_neg (fun q => q (by rw [hne]; rfl))]
    rw [if_pos hne] at go
    exact b_1_47 ⟨so_55, go⟩
  · rw [if_pos (show ¬ nI R.2.2.2.2.2.1.1 = 0 from fun q => hne ((nJ_eq (b := 0) (by omega) (by decide)).mp q))]
    rw [if_neg hne] at go
    exact b_1_47 ⟨so_55, go⟩
theorem bdA_2 (h : N.1.1 = 0) : bdA (tms X0) (tms X1) N = (-2, 0, -1, -1) := if_pos h
/-- the line found is one, or -1, or 0 -/
theorem bdA_sign (hB : lnB N) : (bdA (tms X0) (tms X1) N).1 = -2 ∨ (bdA (tms X0) (tms X1) N).1 = -1 ∨ (0 ≤ (bdA (tms X0) (tms X1) N).1 ∧ (bdA (tms X0) (tms X1) N).1 ≠ -1) := by
  unfold bdA
  split
  · exact Or.inl rfl
  · split
    · rename_i i e
      have := ff_in e
      have b1 := hB.1
      refine Or.inr (Or.inr ⟨?_, fun q => ?_⟩)
      · show (0 : Int32) ≤ nI i
        rw [nI_lit 0, nJ_le (by omega) (by omega)]; omega
      · have h2 := nI_nn (a := i) (by omega)
        rw [show nI i = -1 from q] at h2
        exact h2 (by decide)
    · split
      · exact Or.inr (Or.inl rfl)
      · exact Or.inr (Or.inr (by decide))
def whA (v : Int32 × Int32 × Int32 × Int32) (w : Int32) : Int32 := if w < 0 ∨ 2 < w then -1 else if v.1 = -2 ∨ v.1 = -1 then 0 else if w = 0 then v.2.1 else if w = 1 then v.2.2.1 else v.2.2.2
theorem c_check (hC : simC s R I) (hB : rmB gD R) (h0 : cn X0 ∧ z0 X0 ≤ 30 ∧ R.2.2.1 = sdOf X0) (h1 : cn X1 ∧ z0 X1 ≤ 30 ∧ R.2.2.2.1 = sdOf X1) : doC (yY L xs) (d + 7) 132 [.ref 0] s R I (some (bdA (tms X0) (tms X1) R.2.2.2.2.2).1) R I := by
  intro K kk
  have hP := hC.1
  obtain ⟨c0, hc0, hx0, hs0⟩ := now_side2 (L := L) (xs := xs) (σ := 0) hC (by decide) (show sideOf R 0 = _ from h0.2.2) h0.1 h0.2.1
  obtain ⟨c1, hc1, hx1, hs1⟩ := now_side2 (L := L) (xs := xs) (σ := 1) hC (by decide) (show sideOf R 1 = _ from h1.2.2) h1.1 h1.2.1
  refine b_132_0 ⟨55, ⟨so_0, rp_0_3 hP⟩, 61, ⟨so_0, rp_0_8 hP⟩, 64, ⟨so_61, rp_61_1 hP⟩, 5, 2, c0, ⟨sq_64, inR_nI (k := 0) (by decide) (by decide), hc0⟩, 61, ⟨so_0, rp_0_8 hP⟩, 64, ⟨so_61, rp_61_1 hP⟩, 5, 2, c1, ⟨sq_64, inR_nI (k := 1) (by decide) (by decide), hc1⟩, 61, ⟨so_0, rp_0_8 hP⟩, 84, ⟨so_61, rp_61_3 hP⟩, so_55, c_call (d := d) hC hB h0 h1 ⟨hx0, hs0⟩ ⟨hx1, hs1⟩ (fun s' a b a3 a4 a5 a6 => ?_)⟩
  rw [rt_none]
  refine b_132_32 ⟨55, ⟨so_0, rp_0_3 a.1⟩, so_55, ?_⟩
  rw [a3]
  exact kk s' a b
theorem c_why (hC : simC s R I) (hB : rmB gD R) (h0 : cn X0 ∧ z0 X0 ≤ 30 ∧ R.2.2.1 = sdOf X0) (h1 : cn X1 ∧ z0 X1 ≤ 30 ∧ R.2.2.2.1 = sdOf X1) (w : Int32) : doC (yY L xs) (d + 7) 133 [.ref 0, .int w] s R I (some (whA (bdA (tms X0) (tms X1) R.2.2.2.2.2) w)) R I := by
  intro K kk
  have hP := hC.1
  obtain ⟨c0, hc0, hx0, hs0⟩ := now_side2 (L := L) (xs := xs) (σ := 0) hC (by decide) (show sideOf R 0 = _ from h0.2.2) h0.1 h0.2.1
  obtain ⟨c1, hc1, hx1, hs1⟩ := now_side2 (L := L) (xs := xs) (σ := 1) hC (by decide) (show sideOf R 1 = _ from h1.2.2) h1.1 h1.2.1
  have hsg := bdA_sign (X0 := X0) (X1 := X1) hB.2.2.2.2
  unfold whA at kk
  refine b_133_0 ?_
  by_cases w0 : w < 0
  · rw [if_pos w0]
    rw [if_pos (Or.inl w0)] at kk
    exact kk s hC (fun _ _ => ⟨rfl, rfl⟩)
  rw [if_neg w0]
  by_cases w2 : w ≤ 2
  case neg =>
    rw [if_neg w2]
    rw [if_pos (Or.inr (Int32.not_le.mp w2))] at kk
    exact kk s hC (fun _ _ => ⟨rfl, rfl⟩)
  rw [if_pos w2]
  rw [if_neg (fun q => q.elim w0 (fun q => Int32.not_le.mpr q w2))] at kk
  refine ⟨55, ⟨so_0, rp_0_3 hP⟩, 61, ⟨so_0, rp_0_8 hP⟩, 64, ⟨so_61, rp_61_1 hP⟩, 5, 2, c0, ⟨sq_64, inR_nI (k := 0) (by decide) (by decide), hc0⟩, 61, ⟨so_0, rp_0_8 hP⟩, 64, ⟨so_61, rp_61_1 hP⟩, 5, 2, c1, ⟨sq_64, inR_nI (k := 1) (by decide) (by decide), hc1⟩, 61, ⟨so_0, rp_0_8 hP⟩, 84, ⟨so_61, rp_61_3 hP⟩, so_55, c_call (d := d) hC hB h0 h1 ⟨hx0, hs0⟩ ⟨hx1, hs1⟩ (fun s' a b a3 a4 a5 a6 => ?_)⟩
  rw [rt_none]
  have k := kk s' a b
  refine b_133_43 ⟨55, ⟨so_0, rp_0_3 a.1⟩, so_55, ?_⟩
  rw [a3]
  rcases hsg with q | q | q
  · rw [if_neg (by rw [q]; decide)]
    rw [if_pos (Or.inl q)] at k; exact k
  · rw [if_neg (by rw [q]; decide)]
    rw [if_pos (Or.inr q)] at k; exact k
  · rw [if_pos q.1]
    rw [if_neg (fun z => z.elim (fun z => by have := q.1; rw [z] at this; exact absurd this (by decide)) q.2)] at k
    by_cases e0 : w = 0
    · rw [if_neg (fun q => q e0)]
      rw [if_pos e0] at k
      refine ⟨55, ⟨so_0, rp_0_3 a.1⟩, so_55, ?_⟩
      rw [a4]; exact k
    rw [if_pos e0]
    rw [if_neg e0] at k
    by_cases e1 : w = 1
    · rw [if_neg (fun q => q e1)]
      rw [if_pos e1] at k
      refine ⟨55, ⟨so_0, rp_0_3 a.1⟩, so_55, ?_⟩
      rw [a5]; exact k
    · rw [if_pos e1]
      rw [if_neg e1] at k
      refine ⟨55, ⟨so_0, rp_0_3 a.1⟩, so_55, ?_⟩
      rw [a6]; exact k
theorem r_check (hR : simR s R I) (hB : rmB gD R) (hI : ∀ k R', k < 2 → I k = some R' → rmB gD R') (h0 : cn X0 ∧ z0 X0 ≤ 30 ∧ R.2.2.1 = sdOf X0) (h1 : cn X1 ∧ z0 X1 ≤ 30 ∧ R.2.2.2.1 = sdOf X1) : doR (yY L xs) (d + 11) 206 [.ref 186] s R I (some (bdA (tms X0) (tms X1) R.2.2.2.2.2).1) R I := by
  intro K kk
  have l1 := hR.2.1.2.2.2.1
  simp only [Nat.zero_add] at l1
  have b1 := hB.2.2.2.2.1
  refine b_206_0 ⟨187, ⟨so_186, rm_186_0 hR.1⟩, 42882, ⟨sa_187, inR_nI (k := 186) (by decide) (by decide)⟩, ?_⟩
  rw [show (186 : Int32).toNatClampNeg = 186 from rfl, l1]
  by_cases hne : R.2.2.2.2.2.1.1 = 0
  · rw [if_neg (fun q => q (by rw [hne]; rfl))]
    rw [bdA_2 hne] at kk
    exact b_206_20 (kk s hR (fun _ _ => ⟨rfl, rfl⟩))
  · rw [if_pos (show ¬ nI R.2.2.2.2.2.1.1 = 0 from fun q => hne ((nJ_eq (b := 0) (by omega) (by decide)).mp q))]
    refine ⟨so_186, r_bad (d := d) hR hB hI h0 h1 hne (fun s' a b _ _ _ => ?_)⟩
    rw [rt_some]
    exact b_206_20 (kk s' a b)
theorem r_why (hR : simR s R I) (hB : rmB gD R) (hI : ∀ k R', k < 2 → I k = some R' → rmB gD R') (h0 : cn X0 ∧ z0 X0 ≤ 30 ∧ R.2.2.1 = sdOf X0) (h1 : cn X1 ∧ z0 X1 ≤ 30 ∧ R.2.2.2.1 = sdOf X1) (w : Int32) : doR (yY L xs) (d + 11) 207 [.ref 186, .int w, .null] s R I (some (whA (bdA (tms X0) (tms X1) R.2.2.2.2.2) w)) R I := by
  intro K kk
  have l1 := hR.2.1.2.2.2.1
  simp only [Nat.zero_add] at l1
  have b1 := hB.2.2.2.2.1
  have hsg := bdA_sign (X0 := X0) (X1 := X1) hB.2.2.2.2
  unfold whA at kk
  refine b_207_0 (m_isIn (fun w0 w2 => ?_) (fun q => ?_))
  · rw [rt_some]
    rw [if_neg (fun q => q.elim w0 w2)] at kk
    refine b_207_6 ?_
    rw [if_pos (by decide)]
    refine ⟨187, ⟨so_186, rm_186_0 hR.1⟩, 42882, ⟨sa_187, inR_nI (k := 186) (by decide) (by decide)⟩, ?_⟩
    rw [show (186 : Int32).toNatClampNeg = 186 from rfl, l1]
    by_cases hne : R.2.2.2.2.2.1.1 = 0
    · rw [if_neg (fun q => q (by rw [hne]; rfl))]
      rw [bdA_2 hne, if_pos (Or.inl rfl)] at kk
      exact kk s hR (fun _ _ => ⟨rfl, rfl⟩)
    · rw [if_pos (show ¬ nI R.2.2.2.2.2.1.1 = 0 from fun q => hne ((nJ_eq (b := 0) (by omega) (by decide)).mp q))]
      refine ⟨so_186, r_bad (d := d) hR hB hI h0 h1 hne (fun s' a b a44 a42 a43 => ?_)⟩
      rw [rt_some]
      have k := kk s' a b
      refine b_207_28 ?_
      have hn2 : (bdA (tms X0) (tms X1) R.2.2.2.2.2).1 ≠ -2 := by
        unfold bdA
        rw [if_neg hne]
        split
        · rename_i i e
          have := ff_in e
          intro q
          have h2 := nI_nn (a := i) (by omega)
          rw [show nI i = -2 from q] at h2
          exact h2 (by decide)
        · split <;> decide
      rcases hsg with q | q | q
      · exact absurd q hn2
      · rw [if_neg (fun z => z q)]
        rw [if_pos (Or.inr q)] at k; exact k
      · rw [if_pos q.2]
        rw [if_neg (fun z => z.elim hn2 q.2)] at k
        by_cases e0 : w = 0
        · rw [if_neg (fun q => q e0), a44]
          rw [if_pos e0] at k
          exact ⟨so_186, k⟩
        rw [if_pos e0]
        rw [if_neg e0] at k
        by_cases e1 : w = 1
        · rw [if_neg (fun q => q e1), a42]
          rw [if_pos e1] at k
          exact ⟨so_186, k⟩
        · rw [if_pos e1, a43]
          rw [if_neg e1] at k
          exact ⟨so_186, k⟩
  · rw [rt_some]
    rw [if_pos q] at kk
    refine b_207_6 ?_
    rw [if_neg (fun q => q rfl)]
    exact kk s hR (fun _ _ => ⟨rfl, rfl⟩)
theorem pr_check : pairOK (yY L xs) (Sim gD) (d + 11) 132 206 [.ref 0] [.ref 186] true := by
  refine pair_of fun s R I hC hR hB hI => ?_
  obtain ⟨X0, X1, h0, h1⟩ := both_X hB
  exact ⟨_, R, I, rfl, hB, hI, c_check (d := d + 4) hC hB h0 h1, fun _ hR1 => r_check hR1 hB hI h0 h1⟩
theorem pr_why (w : Int32) : pairOK (yY L xs) (Sim gD) (d + 11) 133 207 [.ref 0, .int w] [.ref 186, .int w, .null] true := by
  refine pair_of fun s R I hC hR hB hI => ?_
  obtain ⟨X0, X1, h0, h1⟩ := both_X hB
  exact ⟨_, R, I, rfl, hB, hI, c_why (d := d + 4) hC hB h0 h1 w, fun _ hR1 => r_why hR1 hB hI h0 h1 w⟩
end CK
