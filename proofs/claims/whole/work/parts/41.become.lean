/-! A SIDE, LINES become others -/
theorem cpy0 {f g : Nat → Int32} {k j : Nat} : va_cpy f g 0 0 k j = if j < k then f j else g j := by
  unfold va_cpy
  by_cases h : j < k
  · rw [if_pos ⟨Nat.zero_le _, by omega⟩, if_pos h]; simp
  · rw [if_neg (by omega), if_neg h]
theorem cp_ok {k n0 n1 : Nat} (h0 : k ≤ n0) (h1 : k ≤ n1) (hk : k < 2147483648) : cpOK 0 0 (nI k) n0 n1 := by
  refine ⟨by decide, by decide, nI_nn hk, ?_, ?_⟩
  · rw [nI_cl hk]; show 0 + k ≤ n0; omega
  · rw [nI_cl hk]; show 0 + k ≤ n1; omega
/-- the rows of a side are where they are -/
def sdK (Y : sY) (ρ : Nat → Nat → Option Nat) (c : Nat) : Prop := isO Y c 5 ∧ (ρ c 0 = some (c + 1) ∧ ρ c 1 = some (c + 3) ∧ ρ c 2 = some (c + 5) ∧ ρ c 3 = some (c + 6) ∧ ρ c 4 = some (c + 7) ∧ ρ c 5 = some (c + 8)) ∧ tX Y ρ (c + 1) 30 ∧ tX Y ρ (c + 3) 4960 ∧ isA Y (c + 5) 0 31 ∧ isA Y (c + 6) 0 93 ∧ isA Y (c + 7) 0 94 ∧ isA Y (c + 8) 0 961
def lnK (Y : sY) (ρ : Nat → Nat → Option Nat) (l : Nat) : Prop := isO Y l 1 ∧ (ρ l 0 = some (l + 1) ∧ ρ l 1 = some (l + 2) ∧ ρ l 2 = some (l + 3) ∧ ρ l 3 = some (l + 4) ∧ ρ l 4 = some (l + 5) ∧ ρ l 5 = some (l + 6) ∧ ρ l 6 = some (l + 7)) ∧ isA Y (l + 1) 0 300 ∧ isA Y (l + 2) 0 300 ∧ isA Y (l + 3) 0 300 ∧ isA Y (l + 4) 0 300 ∧ isA Y (l + 5) 0 300 ∧ isA Y (l + 6) 0 9300 ∧ tX Y ρ (l + 7) 300
section BE
variable {Y : sY} {d : Nat} {s : sT} {K : Option Int32 → sT → Prop}
theorem sd_b3 {c o : Nat} {X : sdT} (hc : sdK Y s.2 c) (ho : sdK Y s.2 o) (hD : sdC s.1 o X) (hB : sdB X) (hdis : c + 9 ≤ o ∨ o + 9 ≤ c) (h6 : s.1 c 6 = nI X.2.1.1)
    (h : ∀ s' : sT, s'.2 = s.2 → (∀ i, ¬ (c + 5 ≤ i ∧ i < c + 9) → s'.1 i = s.1 i) → (∀ i, i < X.2.1.1 → s'.1 (c + 5) i = nI (X.2.2.2.1 i)) → (∀ i, i < 3 * X.2.1.1 → s'.1 (c + 6) i = X.2.2.2.2.1 i) → (∀ i, i ≤ 3 * X.2.1.1 → s'.1 (c + 7) i = nI (X.2.2.2.2.2.1 i)) → (∀ i, i < X.2.2.2.2.2.1 (3 * X.2.1.1) → s'.1 (c + 8) i = X.2.2.2.2.2.2 i) → K none s') : tT Y (d + 1) 44 62 [.ref c, .ref o, .null] [] s K := by
  obtain ⟨c1, ⟨_, _, c4, c5, c6, c7⟩, _, _, c10, c11, c12, c13⟩ := hc
  obtain ⟨o1, ⟨_, _, o4, o5, o6, o7⟩, _, _, o10, o11, o12, o13⟩ := ho
  obtain ⟨_, _, _, x4, x5, x6, x7⟩ := hD
  obtain ⟨_, b2, b3, _, b5⟩ := hB
  refine b_44_62 ⟨c1, o + 5, ⟨o1, o4⟩, c + 5, ⟨c1, c4⟩, c1, 31, 31, ⟨o10, c10, ?_⟩, ?_⟩
  · rw [h6]; exact cp_ok (by omega) (by omega) (by omega)
  rw [h6, nI_cl (by omega), nI_lit 3, nJ_mul]
  refine b_44_86 ⟨o + 6, ⟨o1, o5⟩, c + 6, ⟨c1, c5⟩, 93, 93, ⟨o11, c11, cp_ok (by omega) (by omega) (by omega)⟩, ?_⟩
  rw [nI_cl (by omega)]
  refine b_44_100 ⟨o + 7, ⟨o1, o6⟩, c + 7, ⟨c1, c6⟩, 94, 94, ?_⟩
  rw [nI_lit 1, nJ_add, nI_cl (by omega)]
  refine ⟨⟨o12, c12, cp_ok (by omega) (by omega) (by omega)⟩, ?_⟩
  have z0 : ((0 : Int32)).toNatClampNeg = 0 := rfl
  simp only [z0]
  refine b_44_116 ⟨o + 8, ⟨o1, o7⟩, c + 8, ⟨c1, c7⟩, c + 7, ⟨c1, c6⟩, 94, ⟨c12, inR_nI (by omega) (by omega)⟩, 961, 961, ?_⟩
  have ep : ∀ s9 : sT, (pA s9 (c + 7) (va_cpy (s9.1 (o + 7)) (s9.1 (c + 7)) 0 0 (X.2.1.1 * 3 + 1))).1 (c + 7) (X.2.1.1 * 3) = s9.1 (o + 7) (X.2.1.1 * 3) := by
    intro s9
    rw [pA_1, if_pos rfl, cpy0, if_pos (by omega)]
  rw [nI_cl (by omega), ep, pA_1, if_neg (by omega), pA_1, if_neg (by omega), show X.2.1.1 * 3 = 3 * X.2.1.1 by omega, x6 _ (Nat.le_refl _), nI_cl (by omega)]
  refine ⟨⟨o13, c13, cp_ok (by omega) (by omega) (by omega)⟩, ?_⟩
  simp only [z0]
  refine b_44_135 (h _ rfl (fun i hi => ?_) (fun i hi => ?_) (fun i hi => ?_) (fun i hi => ?_) (fun i hi => ?_))
  · funext j
    rw [pA_1, if_neg (by omega), pA_1, if_neg (by omega), pA_1, if_neg (by omega), pA_1, if_neg (by omega)]
  · rw [pA_1, if_neg (by omega), pA_1, if_neg (by omega), pA_1, if_neg (by omega), pA_1, if_pos rfl, cpy0, if_pos hi]
    exact x4 i hi
  · rw [pA_1, if_neg (by omega), pA_1, if_neg (by omega), pA_1, if_pos rfl, cpy0, if_pos (by omega), pA_1, if_neg (by omega)]
    exact x5 i hi
  · rw [pA_1, if_neg (by omega), pA_1, if_pos rfl, cpy0, if_pos (by omega), pA_1, if_neg (by omega), pA_1, if_neg (by omega)]
    exact x6 i hi
  · rw [pA_1, if_pos rfl, cpy0, if_pos hi, pA_1, if_neg (by omega), pA_1, if_neg (by omega), pA_1, if_neg (by omega)]
    exact x7 i hi
theorem sd_become {c o : Nat} {X : sdT} (hc : sdK Y s.2 c) (ho : sdK Y s.2 o) (hD : sdC s.1 o X) (hB : sdB X) (hdis : c + 9 ≤ o ∨ o + 9 ≤ c)
    (h : ∀ s' : sT, s'.2 = s.2 → (∀ i, ¬ (c ≤ i ∧ i < c + 9) → s'.1 i = s.1 i) → sdC s'.1 c X → K none s') : tT Y (d + 2) 44 0 [.ref c, .ref o, .null] [] s K := by
  have hc0 := hc
  have ho0 := ho
  obtain ⟨c1, ⟨c2, c3, _⟩, c8, c9, _⟩ := hc
  obtain ⟨o1, ⟨o2, o3, _⟩, o8, o9, _⟩ := ho
  have b1 := hB.1
  have b4 := hB.2.2.2.1
  refine b_44_0 ⟨c + 1, ⟨c1, c2⟩, o + 1, ⟨o1, o2⟩, c8.1, x_become (d := d) c8 o8 hD.1.1 b1 b1 (by omega) (by omega) (by omega) (fun s1 e2 e1 e3 eo => ?_)⟩
  rw [rt_none]
  have f1 : ∀ i, ¬ (i = c + 1 ∨ i = c + 1 + 1) → s1.1 i = s.1 i := fun i hi => (eo i hi).1
  refine b_44_11 ⟨c + 3, ⟨c1, by rw [e2]; exact c3⟩, o + 3, ⟨o1, by rw [e2]; exact o3⟩, c9.1, x_become (d := d) (cap := 4960) (capo := 4960) (m := X.2.2.1.1) (by rw [e2]; exact c9) (by rw [e2]; exact o9) (by rw [f1 _ (by omega)]; exact hD.2.2.1.1) b4 b4 (by omega) (by omega) (by omega) (fun s2 g2 g1 g3 go => ?_)⟩
  rw [rt_none]
  have f2 : ∀ i, ¬ (i = c + 3 ∨ i = c + 3 + 1) → s2.1 i = s1.1 i := fun i hi => (go i hi).1
  have t2 : s2.2 = s.2 := g2.trans e2
  have tO : ∀ i, ¬ (c + 1 ≤ i ∧ i < c + 5) → s2.1 i = s.1 i := fun i hi => (f2 i (by omega)).trans (f1 i (by omega))
  obtain ⟨v6, v7, v8, v9⟩ := hD.2.1
  refine b_44_22 ⟨o1, c1, b_44_30 ⟨o1, c1, b_44_38 ⟨o1, c1, b_44_46 ⟨o1, c1, b_44_54 ⟨o1, c1, ?_⟩⟩⟩⟩⟩
  have hne : ¬ o = c := by omega
  simp only [pV_1, hne, false_and, if_false]
  have t3 : (pV (pV (pV (pV (pV s2 c 6 (s2.1 o 6)) c 7 (s2.1 o 7)) c 8 (s2.1 o 8)) c 9 (s2.1 o 9)) c 10 (s2.1 o 10)).2 = s.2 := t2
  have tV : ∀ i, i ≠ c → (pV (pV (pV (pV (pV s2 c 6 (s2.1 o 6)) c 7 (s2.1 o 7)) c 8 (s2.1 o 8)) c 9 (s2.1 o 9)) c 10 (s2.1 o 10)).1 i = s2.1 i := by
    intro i hi
    funext j
    simp only [pV_1, hi, false_and, if_false]
  have tC : (pV (pV (pV (pV (pV s2 c 6 (s2.1 o 6)) c 7 (s2.1 o 7)) c 8 (s2.1 o 8)) c 9 (s2.1 o 9)) c 10 (s2.1 o 10)).1 c 6 = s.1 o 6 ∧ (pV (pV (pV (pV (pV s2 c 6 (s2.1 o 6)) c 7 (s2.1 o 7)) c 8 (s2.1 o 8)) c 9 (s2.1 o 9)) c 10 (s2.1 o 10)).1 c 7 = s.1 o 7 ∧ (pV (pV (pV (pV (pV s2 c 6 (s2.1 o 6)) c 7 (s2.1 o 7)) c 8 (s2.1 o 8)) c 9 (s2.1 o 9)) c 10 (s2.1 o 10)).1 c 8 = s.1 o 8 ∧ (pV (pV (pV (pV (pV s2 c 6 (s2.1 o 6)) c 7 (s2.1 o 7)) c 8 (s2.1 o 8)) c 9 (s2.1 o 9)) c 10 (s2.1 o 10)).1 c 9 = s.1 o 9 := by
    rw [← tO o (by omega)]
    simp [pV_1]
  generalize pV (pV (pV (pV (pV s2 c 6 (s2.1 o 6)) c 7 (s2.1 o 7)) c 8 (s2.1 o 8)) c 9 (s2.1 o 9)) c 10 (s2.1 o 10) = s3 at t3 tV tC ⊢
  have hDo : sdC s3.1 o X := sdC_off hD (fun i _ _ => (tV i (by omega)).trans (tO i (by omega)))
  refine sd_b3 (by rw [t3]; exact hc0) (by rw [t3]; exact ho0) hDo hB hdis (tC.1.trans v6) (fun s4 k2 k1 k5 k6 k7 k8 => ?_)
  refine h s4 (k2.trans t3) (fun i hi => (k1 i (by omega)).trans ((tV i (by omega)).trans (tO i (by omega)))) ?_
  refine ⟨⟨?_, fun j hj => ?_⟩, ⟨?_, ?_, ?_, ?_⟩, ⟨?_, fun j hj => ?_⟩, k5, k6, k7, k8⟩
  · rw [k1 _ (by omega), tV _ (by omega), f2 _ (by omega)]; exact e1
  · rw [k1 _ (by omega), tV _ (by omega), f2 _ (by omega), e3 j hj]; exact hD.1.2 j hj
  · rw [k1 c (by omega), tC.1]; exact v6
  · rw [k1 c (by omega), tC.2.1]; exact v7
  · rw [k1 c (by omega), tC.2.2.1]; exact v8
  · rw [k1 c (by omega), tC.2.2.2]; exact v9
  · rw [k1 _ (by omega), tV _ (by omega)]; exact g1
  · rw [k1 _ (by omega), tV _ (by omega), g3 j hj, f1 _ (by omega)]; exact hD.2.2.1.2 j hj
end BE
