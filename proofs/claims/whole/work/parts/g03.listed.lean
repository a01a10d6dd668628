/-! WORDS, by the reference: all words in their order -/
def runS (F : List Cond) (U : List Nat) : Int32 := U.foldl (fun S x => pso F S x F.length) 1
def num (U : List Nat) : Nat := U.foldl (fun t x => t * 4 + x + 1) 0
theorem runS_app (F : List Cond) (U : List Nat) (x : Nat) : runS F (U ++ [x]) = pso F (runS F U) x F.length := by unfold runS; rw [List.foldl_append]; rfl
theorem num_app (U : List Nat) (x : Nat) : num (U ++ [x]) = num U * 4 + x + 1 := by unfold num; rw [List.foldl_append]; rfl
def lO (s : sT) (U : List Nat) : Prop := ∀ i x, U[i]? = some x → s.1 218 i = nI x
def fL' (s s' : sT) : Prop := s'.2 = s.2 ∧ ∀ z, z ≠ 218 → s'.1 z = s.1 z
theorem fL'_refl (s : sT) : fL' s s := ⟨rfl, fun _ _ => rfl⟩
theorem fL'_trans {s s1 s2 : sT} (h1 : fL' s s1) (h2 : fL' s1 s2) : fL' s s2 := ⟨h2.1.trans h1.1, fun z a => (h2.2 z a).trans (h1.2 z a)⟩
theorem fL'_put {s s1 : sT} {k : Nat} {v : Int32} (h : fL' s s1) : fL' s (pV s1 218 k v) := ⟨h.1, fun z a => (funext fun j => by rw [pV_1, if_neg (by omega)]).trans (h.2 z a)⟩
theorem rT_fL' {s s' : sT} {T : List Cond} {X0 X1 : Cond} (h : rT s T X0 X1) (f : fL' s s') : rT s' T X0 X1 := by
  obtain ⟨⟨hM, ⟨off, hN⟩, hs⟩, h2, h3, h4⟩ := h
  have o : ∀ z, z < 215 → s'.1 z = s.1 z := fun z c => f.2 z (by omega)
  refine ⟨⟨by rw [f.1]; exact hM, ⟨off, rN_off hN (by rw [o 186 (by decide)]) (by rw [o 186 (by decide)]) (fun z a b => o z (by omega))⟩, hs⟩, h2, ?_, ?_⟩
  · unfold rS tmO rowO at h3 ⊢
    rw [o 210 (by decide), o 211 (by decide), o 212 (by decide), o 213 (by decide), o 214 (by decide)]
    exact h3
  · unfold rS tmO rowO at h4 ⊢
    rw [o 210 (by decide), o 211 (by decide), o 212 (by decide), o 213 (by decide), o 214 (by decide)]
    exact h4
section LI
variable {L : Nat} {xs : Nat → Int32} {d : Nat} {s : sT} {K : Option Int32 → sT → Prop} {T : List Cond} {X0 X1 X : Cond} {w : Nat}
theorem take_s {U : List Nat} {i x : Nat} (h : U[i]? = some x) : U.take (i + 1) = U.take i ++ [x] := by
  obtain ⟨h1, h2⟩ := List.getElem?_eq_some_iff.mp h
  rw [List.take_succ_eq_append_getElem h1, h2]
theorem r_isWord {σ : Nat} {U : List Nat} (hT : tb s T) (hl : T.length ≤ 1500) (hS : rS s T σ X) (hσ : σ < 2) (hU : U.length ≤ 8) (h3 : ∀ x ∈ U, x < 3) (hL : lO s U) (hK : K (some (bz (anyF (tms X) (runS (tms X) U)))) s) : tT (yY L xs) (d + 2) 222 0 [.ref 186, .int (nI σ), .int (nI U.length), .null, .null] [] s K := by
  have loop : ∀ q i, q + i = U.length → tT (yY L xs) (d + 2) 222 5 [.ref 186, .int (nI σ), .int (nI U.length), .int (runS (tms X) (U.take i)), .int (nI i)] [] s K := by
    intro q
    induction q with
    | zero =>
      intro i hi
      refine b_222_5 ?_
      rw [if_pos (by rw [nJ_le (by omega) (by omega)]; omega), List.take_of_length_le (by omega)]
      refine ⟨so_186, r_isFullSet (d := d) hT hl hS hσ ?_⟩
      rw [rt_some]
      exact b_222_37 ⟨bz_01 _, hK⟩
    | succ q ih =>
      intro i hi
      have hx := List.getElem?_eq_getElem (show i < U.length by omega)
      generalize U[i] = x at hx
      have hx3 := h3 x (List.mem_of_getElem? hx)
      refine b_222_5 ?_
      rw [if_neg (by rw [nJ_le (by omega) (by omega)]; omega)]
      refine ⟨218, ⟨so_186, rm_186_45 hT.1⟩, 8, ⟨sa_218, inR_nI (by omega) (by decide)⟩, so_186, ?_⟩
      rw [nI_cl (show i < 2147483648 by omega), hL i x hx]
      refine r_partsOf hT hS hσ hx3 ?_
      rw [rt_some]
      refine b_222_24 ?_
      have := ih (i + 1) (by omega)
      rw [take_s hx, runS_app, nI_succ i] at this
      exact this
  exact b_222_0 (loop _ 0 rfl)
theorem r_isOne {U : List Nat} (hT : rT s T X0 X1) (hw : w < 6) (hU : U.length ≤ 8) (h3 : ∀ x ∈ U, x < 3) (hL : lO s U) (hK : K (some (bz (ftB w (anyF (tms X0) (runS (tms X0) U)) (anyF (tms X1) (runS (tms X1) U))))) s) : tT (yY L xs) (d + 3) 223 0 [.ref 186, .int (nI w), .int (nI U.length), .null, .null] [] s K := by
  refine b_223_0 ⟨so_186, r_isWord (d := d) (σ := 0) hT.1 hT.2.1 hT.2.2.1 (by decide) hU h3 hL ?_⟩
  rw [rt_some]
  refine b_223_6 ⟨so_186, r_isWord (d := d) (σ := 1) hT.1 hT.2.1 hT.2.2.2 (by decide) hU h3 hL ?_⟩
  rw [rt_some]
  generalize anyF (tms X0) (runS (tms X0) U) = a at hK ⊢
  generalize anyF (tms X1) (runS (tms X1) U) = b at hK ⊢
  have b1 : ∀ c : Bool, bz c = 0 ∨ bz c = 1 := bz_01
  refine b_223_13 ?_
  rcases (show w = 0 ∨ w = 1 ∨ w = 2 ∨ w = 3 ∨ w = 4 ∨ w = 5 by omega) with rfl | rfl | rfl | rfl | rfl | rfl
  · exact ⟨fun _ => ⟨b1 a, hK⟩, fun q => absurd q (by decide), fun q => absurd q (by decide), fun q => absurd q (by decide), fun q => absurd q (by decide), fun q => absurd (show nI 0 = 0 from rfl) q.1⟩
  · exact ⟨fun q => absurd q (by decide), fun _ => ⟨b1 b, hK⟩, fun q => absurd q (by decide), fun q => absurd q (by decide), fun q => absurd q (by decide), fun q => absurd (show nI 1 = 1 from rfl) q.2.1⟩
  · refine ⟨fun q => absurd q (by decide), fun q => absurd q (by decide), fun _ => ?_, fun q => absurd q (by decide), fun q => absurd q (by decide), fun q => absurd (show nI 2 = 2 from rfl) q.2.2.1⟩
    cases a <;> cases b <;> exact hK
  · refine ⟨fun q => absurd q (by decide), fun q => absurd q (by decide), fun q => absurd q (by decide), fun _ => ?_, fun q => absurd q (by decide), fun q => absurd (show nI 3 = 3 from rfl) q.2.2.2.1⟩
    cases a <;> cases b <;> exact hK
  · refine ⟨fun q => absurd q (by decide), fun q => absurd q (by decide), fun q => absurd q (by decide), fun q => absurd q (by decide), fun _ => ?_, fun q => absurd (show nI 4 = 4 from rfl) q.2.2.2.2⟩
    cases a <;> cases b <;> exact hK
  · refine ⟨fun q => absurd q (by decide), fun q => absurd q (by decide), fun q => absurd q (by decide), fun q => absurd q (by decide), fun q => absurd q (by decide), fun _ => ?_⟩
    cases a <;> cases b <;> exact hK
theorem r_number {U : List Nat} (hM : rM s.2) (hU : U.length ≤ 8) (hL : lO s U) (hK : K (some (nI (num U))) s) : tT (yY L xs) d 225 0 [.ref 186, .int (nI U.length), .null, .null] [] s K := by
  have loop : ∀ q i, q + i = U.length → tT (yY L xs) d 225 4 [.ref 186, .int (nI U.length), .int (nI (num (U.take i))), .int (nI i)] [] s K := by
    intro q
    induction q with
    | zero =>
      intro i hi
      refine b_225_4 ?_
      rw [if_pos (by rw [nJ_le (by omega) (by omega)]; omega), List.take_of_length_le (by omega)]
      exact hK
    | succ q ih =>
      intro i hi
      have hx := List.getElem?_eq_getElem (show i < U.length by omega)
      generalize U[i] = x at hx
      refine b_225_4 ?_
      rw [if_neg (by rw [nJ_le (by omega) (by omega)]; omega)]
      refine ⟨218, ⟨so_186, rm_186_45 hM⟩, 8, ⟨sa_218, inR_nI (by omega) (by decide)⟩, ?_⟩
      have := ih (i + 1) (by omega)
      rw [take_s hx, num_app, nI_succ i] at this
      rw [nI_cl (show i < 2147483648 by omega), hL i x hx, nI_lit 4, nJ_mul, nJ_add, ← nI_succ, Nat.mul_comm 4]
      exact this
  exact b_225_0 (loop _ 0 rfl)
/-- the next word -/
theorem r_goesOn {V : List Nat} {x m N : Nat} (hM : rM s.2) (hN : V.length + 1 + m = N) (hN8 : N ≤ 8) (hx : x < 2) (hL : lO s (V ++ [x] ++ List.replicate m 2)) (hK : ∀ s', fL' s s' → lO s' (V ++ [x + 1] ++ List.replicate m 0) → K (some 1) s') : tT (yY L xs) d 224 0 [.ref 186, .int (nI N), .null] [] s K := by
  have hVx : (V ++ [x]).length = V.length + 1 := by rw [List.length_append]; rfl
  have e2 : ∀ j, j < m → s.1 218 (V.length + 1 + j) = 2 := fun j hj => hL _ 2 (by rw [List.getElem?_append_right (by omega), hVx, Nat.add_sub_cancel_left, List.getElem?_replicate, if_pos hj])
  have ex : s.1 218 V.length = nI x := hL _ x (by rw [List.getElem?_append_left (by omega), List.getElem?_append_right (Nat.le_refl _), Nat.sub_self]; rfl)
  have eV : ∀ i v, V[i]? = some v → s.1 218 i = nI v := fun i v hv => hL i v (by
    have := (List.getElem?_eq_some_iff.mp hv).1
    rw [List.getElem?_append_left (by omega), List.getElem?_append_left this]; exact hv)
  have loop : ∀ q (s1 : sT), q ≤ m → fL' s s1 → (∀ j, j < V.length + 1 + q → s1.1 218 j = s.1 218 j) → (∀ j, q ≤ j → j < m → s1.1 218 (V.length + 1 + j) = 0) → tT (yY L xs) d 224 4 [.ref 186, .int (nI N), .int (nI (V.length + q))] [] s1 K := by
    intro q
    induction q with
    | zero =>
      intro s1 hq f1 lo hi
      have hM1 : rM s1.2 := by rw [f1.1]; exact hM
      refine b_224_4 ?_
      rw [if_neg (nI_nn (by omega))]
      refine ⟨218, ⟨so_186, rm_186_45 hM1⟩, 8, ⟨sa_218, inR_nI (by omega) (by decide)⟩, ?_⟩
      rw [nI_cl (show V.length + 0 < 2147483648 by omega), lo _ (by omega), show V.length + 0 = V.length from rfl, ex, if_pos (by rw [nI_lit 2, nJ_eq (by omega) (by omega)]; omega)]
      refine b_224_31 ?_
      rw [if_neg (nI_nn (by omega))]
      refine ⟨218, ⟨so_186, rm_186_45 hM1⟩, 8, ⟨sa_218, inR_nI (by omega) (by decide)⟩, 8, ⟨sa_218, inR_nI (by omega) (by decide)⟩, b_224_45 ?_⟩
      rw [if_neg (nI_nn (by omega)), nI_cl (show V.length < 2147483648 by omega), lo _ (by omega), ex, ← nI_succ]
      refine hK _ (fL'_put f1) (fun i y hy => ?_)
      rw [pV_1]
      by_cases hi1 : i < V.length
      · rw [if_neg (by omega), lo i (by omega)]
        rw [List.getElem?_append_left (by rw [List.length_append]; omega), List.getElem?_append_left hi1] at hy
        exact eV i y hy
      · by_cases hi2 : i = V.length
        · subst hi2
          rw [List.getElem?_append_left (by rw [List.length_append]; show V.length < V.length + 1; omega), List.getElem?_append_right (Nat.le_refl _), Nat.sub_self] at hy
          cases hy
          rw [if_pos ⟨rfl, rfl⟩]
        · rw [List.getElem?_append_right (by rw [List.length_append]; show V.length + 1 ≤ i; omega), List.getElem?_replicate] at hy
          have hVx1 : (V ++ [x + 1]).length = V.length + 1 := by rw [List.length_append]; rfl
          rw [hVx1] at hy
          by_cases hlt : i - (V.length + 1) < m
          · rw [if_pos hlt] at hy
            cases hy
            rw [if_neg (by omega), show i = V.length + 1 + (i - (V.length + 1)) by omega, hi _ (Nat.zero_le _) hlt]; rfl
          · rw [if_neg hlt] at hy; cases hy
    | succ q ih =>
      intro s1 hq f1 lo hi
      have hM1 : rM s1.2 := by rw [f1.1]; exact hM
      refine b_224_4 ?_
      rw [if_neg (nI_nn (by omega))]
      refine ⟨218, ⟨so_186, rm_186_45 hM1⟩, 8, ⟨sa_218, inR_nI (by omega) (by decide)⟩, ?_⟩
      have e2' : s1.1 218 (V.length + (q + 1)) = 2 := by rw [lo _ (by omega), show V.length + (q + 1) = V.length + 1 + q by omega]; exact e2 q (by omega)
      rw [nI_cl (show V.length + (q + 1) < 2147483648 by omega), e2', if_neg (fun q => q rfl)]
      refine ⟨218, ⟨so_186, rm_186_45 hM1⟩, 8, ⟨sa_218, inR_nI (by omega) (by decide)⟩, ?_⟩
      rw [show V.length + (q + 1) = V.length + q + 1 from rfl, nI_dec]
      refine ih _ (by omega) (fL'_put f1) (fun j hj => by rw [pV_1, if_neg (by omega)]; exact lo j (by omega)) (fun j hj1 hj2 => ?_)
      rw [pV_1]
      by_cases e : j = q
      · rw [if_pos ⟨rfl, by omega⟩]
      · rw [if_neg (by omega)]; exact hi j (by omega) hj2
  refine b_224_0 ?_
  rw [← hN, show V.length + 1 + m = (V.length + m) + 1 by omega, nI_sub1]
  have := loop m s (Nat.le_refl _) (fL'_refl s) (fun _ _ => rfl) (fun j a b => by omega)
  rw [← hN, show V.length + 1 + m = (V.length + m) + 1 by omega] at this
  exact this
end LI
