section RJ
variable {L : Nat} {xs : Nat → Int32} {d : Nat} {s : sT} {K : Option Int32 → sT → Prop}
def bz (b : Bool) : Int32 := if b = true then 1 else 0
theorem bz_01 (b : Bool) : bz b = 0 ∨ bz b = 1 := by cases b <;> decide
/-- node k has got these: shortest, nest, full -/
def jnO (s s' : sT) (k S D : Nat) (F : Bool) : Prop := s'.2 = s.2 ∧ (∀ c, c ≠ 193 → c ≠ 194 → c ≠ 196 → s'.1 c = s.1 c) ∧ (∀ t, t ≠ k → s'.1 193 t = s.1 193 t ∧ s'.1 194 t = s.1 194 t ∧ s'.1 196 t = s.1 196 t) ∧ s'.1 193 k = nI S ∧ s'.1 194 k = nI D ∧ s'.1 196 k = bz F
theorem jnO_D {k D : Nat} {S : Nat} {F : Bool} (h1 : s.1 193 k = nI S) (h2 : s.1 196 k = bz F) : jnO s (pV s 194 k (nI D)) k S D F :=
  ⟨rfl, fun c _ h _ => by funext z; rw [pV_1, if_neg (fun q => h q.1)], fun t ht => ⟨by rw [pV_1, if_neg (by omega)], by rw [pV_1, if_neg (fun q => ht q.2)], by rw [pV_1, if_neg (by omega)]⟩, by rw [pV_1, if_neg (by omega), h1], by rw [pV_1, if_pos ⟨rfl, rfl⟩], by rw [pV_1, if_neg (by omega), h2]⟩
theorem jnO_F {s' : sT} {k S D : Nat} {F G : Bool} (h : jnO s s' k S D F) : jnO s (pV s' 196 k (bz G)) k S D G := by
  obtain ⟨a, b, c, e, f, -⟩ := h
  exact ⟨a, fun z h1 h2 h3 => by rw [← b z h1 h2 h3]; funext w; rw [pV_1, if_neg (fun q => h3 q.1)], fun t ht => ⟨by rw [pV_1, if_neg (by omega)]; exact (c t ht).1, by rw [pV_1, if_neg (by omega)]; exact (c t ht).2.1, by rw [pV_1, if_neg (fun q => ht q.2)]; exact (c t ht).2.2⟩, by rw [pV_1, if_neg (by omega), e], by rw [pV_1, if_neg (by omega), f], by rw [pV_1, if_pos ⟨rfl, rfl⟩]⟩
theorem jnO_S {s' : sT} {k S S' D : Nat} {F : Bool} (h : jnO s s' k S D F) : jnO s (pV s' 193 k (nI S')) k S' D F := by
  obtain ⟨a, b, c, e, f, g⟩ := h
  exact ⟨a, fun z h1 h2 h3 => by rw [← b z h1 h2 h3]; funext w; rw [pV_1, if_neg (fun q => h1 q.1)], fun t ht => ⟨by rw [pV_1, if_neg (fun q => ht q.2)]; exact (c t ht).1, by rw [pV_1, if_neg (by omega)]; exact (c t ht).2.1, by rw [pV_1, if_neg (by omega)]; exact (c t ht).2.2⟩, by rw [pV_1, if_pos ⟨rfl, rfl⟩], by rw [pV_1, if_neg (by omega), f], by rw [pV_1, if_neg (by omega), g]⟩
theorem r_joins {k j i dk dj sk sj how : Nat} {fk fj : Bool} (hM : rM s.2) (hk : k < 1500) (hj : j < 1500) (hkj : j ≠ k) (hi : i < 100000) (hdk : dk < 100000) (hdj : dj < 100000) (hsk : sk < 100000) (hsj : sj < 100000) (hh : how = 3 ∨ how = 4 ∨ how = 5)
    (kK : s.1 190 k = nI how) (kD : s.1 194 k = nI dk) (jD : s.1 194 j = nI dj) (kS : s.1 193 k = nI sk) (jS : s.1 193 j = nI sj) (kF : s.1 196 k = bz fk) (jF : s.1 196 j = bz fj)
    (h : ∀ s', jnO s s' k (if how = 3 then (if i = 0 then sj else min sk sj) else if how = 4 then sk + sj else sk) (max dk dj) (if how = 3 then fk || fj else if how = 4 then fk && fj else fk) → K none s') : tT (yY L xs) d 155 0 [.ref 186, .int (nI k), .int (nI j), .int (nI i)] [] s K := by
  have ck : (nI k).toNatClampNeg = k := nI_cl (by omega)
  have cj : (nI j).toNatClampNeg = j := nI_cl (by omega)
  have ink : ∀ {m}, m = 1500 → inR (nI k) m := fun e => inR_nI (by omega) (by omega)
  have inj : ∀ {m}, m = 1500 → inR (nI j) m := fun e => inR_nI (by omega) (by omega)
  have hJ0 : jnO s (pV s 194 k (nI (max dk dj))) k sk (max dk dj) fk := jnO_D kS kF
  generalize hs1 : pV s 194 k (nI (max dk dj)) = s1 at hJ0
  have hM1 : rM s1.2 := by rw [hJ0.1]; exact hM
  have g35 : tT (yY L xs) d 155 35 [.ref 186, .int (nI k), .int (nI j), .int (nI i)] [.int (nI (max dk dj)), .int (nI k), .ref 194] s K := by
    refine b_155_35 ⟨1500, ⟨sa_194, ink rfl⟩, 190, ?_⟩
    rw [ck, hs1]
    refine ⟨⟨so_186, rm_186_5 hM1⟩, 1500, ⟨sa_190, ink rfl⟩, ?_⟩
    have k1 : s1.1 190 k = nI how := by rw [hJ0.2.1 190 (by decide) (by decide) (by decide)]; exact kK
    have jS1 : s1.1 193 j = nI sj := by rw [(hJ0.2.2.1 j hkj).1]; exact jS
    have jF1 : s1.1 196 j = bz fj := by rw [(hJ0.2.2.1 j hkj).2.2]; exact jF
    have kS1 := hJ0.2.2.2.1
    have kF1 := hJ0.2.2.2.2.2
    rw [k1]
    rcases hh with rfl | rfl | rfl
    · rw [if_neg (by decide)]
      rw [if_pos rfl, if_pos rfl] at h
      have fin : ∀ S, (if i = 0 then sj else min sk sj) = S → tT (yY L xs) d 155 114 [.ref 186, .int (nI k), .int (nI j), .int (nI i)] [.int (nI S), .int (nI k), .ref 193] (pV s1 196 k (bz (fk || fj))) K := by
        intro S hS
        rw [hS] at h
        refine b_155_114 ⟨1500, ⟨sa_193, ink rfl⟩, ?_⟩
        rw [ck]
        have hJ := jnO_S (S' := S) (jnO_F (G := fk || fj) hJ0)
        refine b_155_115 ⟨190, ⟨so_186, rm_186_5 (by rw [hJ.1]; exact hM)⟩, 1500, ⟨sa_190, ink rfl⟩, ?_⟩
        rw [ck, hJ.2.1 190 (by decide) (by decide) (by decide), kK, if_pos (by decide)]
        exact h _ hJ
      have g99 : (if i = 0 then sj else min sk sj) = sj → tT (yY L xs) d 155 99 [.ref 186, .int (nI k), .int (nI j), .int (nI i)] [.int (nI k), .ref 193] (pV s1 196 k (bz (fk || fj))) K := by
        intro e
        refine b_155_99 ⟨193, ⟨so_186, rm_186_8 hM1⟩, 1500, ⟨sa_193, inj rfl⟩, ?_⟩
        rw [cj, pV_1, if_neg (by omega), jS1]
        exact fin sj e
      have g74 : tT (yY L xs) d 155 74 [.ref 186, .int (nI k), .int (nI j), .int (nI i)] [.int (bz (fk || fj)), .int (nI k), .ref 196] s1 K := by
        refine b_155_74 ⟨1500, ⟨sa_196, ink rfl, bz_01 _⟩, 193, ⟨so_186, rm_186_8 hM1⟩, ?_⟩
        rw [ck, cj]
        by_cases hi0 : i = 0
        · subst hi0
          rw [if_pos (show nI 0 = 0 from rfl)]
          exact g99 rfl
        · rw [if_neg (show ¬ nI i = 0 from fun e => hi0 ((nJ_eq (by omega) (by omega)).mp e))]
          refine ⟨193, ⟨so_186, rm_186_8 hM1⟩, 1500, ⟨sa_193, inj rfl⟩, 193, ⟨so_186, rm_186_8 hM1⟩, 1500, ⟨sa_193, ink rfl⟩, ?_⟩
          have e1 : (pV s1 196 k (bz (fk || fj))).1 193 k = nI sk := by rw [pV_1, if_neg (by omega), kS1]
          have e2 : (pV s1 196 k (bz (fk || fj))).1 193 j = nI sj := by rw [pV_1, if_neg (by omega), jS1]
          rw [e1, e2]
          by_cases hle : sk ≤ sj
          · rw [if_pos ((nJ_le (by omega) (by omega)).mpr hle)]
            refine ⟨193, ⟨so_186, rm_186_8 hM1⟩, 1500, ⟨sa_193, ink rfl⟩, ?_⟩
            rw [e1]
            exact fin sk (by rw [if_neg hi0]; omega)
          · rw [if_neg (fun q => hle ((nJ_le (by omega) (by omega)).mp q))]
            exact g99 (by rw [if_neg hi0]; omega)
      refine ⟨196, ⟨so_186, rm_186_11 hM1⟩, 196, ⟨so_186, rm_186_11 hM1⟩, 1500, ⟨sa_196, ink rfl⟩, ?_⟩
      rw [kF1]
      cases fk with
      | true => rw [if_pos (by decide)]; exact b_155_69 g74
      | false =>
        rw [if_neg (by decide)]
        refine ⟨196, ⟨so_186, rm_186_11 hM1⟩, 1500, ⟨sa_196, inj rfl⟩, ?_⟩
        rw [cj, jF1]
        cases fj with
        | true => rw [if_neg (by decide)]; exact b_155_69 g74
        | false => rw [if_pos (by decide)]; exact g74
    · rw [if_pos (by decide)]
      rw [if_neg (by decide), if_pos rfl, if_neg (by decide), if_pos rfl] at h
      refine b_155_115 ⟨190, ⟨so_186, rm_186_5 hM1⟩, 1500, ⟨sa_190, ink rfl⟩, ?_⟩
      rw [ck, k1, if_neg (by decide)]
      have g153 : tT (yY L xs) d 155 153 [.ref 186, .int (nI k), .int (nI j), .int (nI i)] [.int (bz (fk && fj)), .int (nI k), .ref 196] s1 K := by
        refine b_155_153 ⟨1500, ⟨sa_196, ink rfl, bz_01 _⟩, 193, ⟨so_186, rm_186_8 hM1⟩, 1500, ⟨sa_193, ink rfl⟩, 193, ⟨so_186, rm_186_8 hM1⟩, 1500, ⟨sa_193, inj rfl⟩, 1500, ⟨sa_193, ink rfl⟩, ?_⟩
        rw [ck, cj, pV_1, if_neg (by omega), kS1, pV_1, if_neg (by omega), jS1, nJ_add]
        exact h _ (jnO_S (jnO_F hJ0))
      refine ⟨196, ⟨so_186, rm_186_11 hM1⟩, 196, ⟨so_186, rm_186_11 hM1⟩, 1500, ⟨sa_196, ink rfl⟩, ?_⟩
      rw [kF1]
      cases fk with
      | false => rw [if_pos (by decide)]; exact b_155_152 g153
      | true =>
        rw [if_neg (by decide)]
        refine ⟨196, ⟨so_186, rm_186_11 hM1⟩, 1500, ⟨sa_196, inj rfl⟩, ?_⟩
        rw [cj, jF1]
        cases fj with
        | false => rw [if_pos (by decide)]; exact b_155_152 g153
        | true => rw [if_neg (by decide)]; exact g153
    · rw [if_pos (by decide)]
      rw [if_neg (by decide), if_neg (by decide), if_neg (by decide), if_neg (by decide)] at h
      refine b_155_115 ⟨190, ⟨so_186, rm_186_5 hM1⟩, 1500, ⟨sa_190, ink rfl⟩, ?_⟩
      rw [ck, k1, if_pos (by decide)]
      exact h _ hJ0
  refine b_155_0 ⟨194, ⟨so_186, rm_186_9 hM⟩, 194, ⟨so_186, rm_186_9 hM⟩, 1500, ⟨sa_194, inj rfl⟩, 194, ⟨so_186, rm_186_9 hM⟩, 1500, ⟨sa_194, ink rfl⟩, ?_⟩
  rw [ck, cj, kD, jD]
  by_cases hle : dj ≤ dk
  · rw [if_pos ((nJ_le (by omega) (by omega)).mpr hle)]
    refine ⟨194, ⟨so_186, rm_186_9 hM⟩, 1500, ⟨sa_194, ink rfl⟩, ?_⟩
    rw [show max dk dj = dk by omega] at g35
    rw [kD]
    exact g35
  · rw [if_neg (fun q => hle ((nJ_le (by omega) (by omega)).mp q))]
    refine ⟨194, ⟨so_186, rm_186_9 hM⟩, 1500, ⟨sa_194, inj rfl⟩, ?_⟩
    rw [show max dk dj = dj by omega] at g35
    rw [jD]
    exact g35
end RJ
