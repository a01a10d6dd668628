/-! THE TERMS OF BOTH SIDES, by the reference -/
def rS (s : sT) (T : List Cond) (σ : Nat) (X : Cond) : Prop := tmO s.1 T σ (tms X) ∧ ∀ k y x, (tms X)[k]? = some y → x < 3 → rowO s.1 σ (tms X) k x y
section LT
variable {L : Nat} {xs : Nat → Int32} {d : Nat} {s : sT} {K : Option Int32 → sT → Prop}
/-- frame of a side -/
def fs (s s' : sT) (σ : Nat) : Prop := fk s s' ∧ (∀ t, (t < 93 * σ ∨ 93 * σ + 93 ≤ t) → s'.1 212 t = s.1 212 t ∧ s'.1 214 t = s.1 214 t) ∧ (∀ t, (t < 31 * (93 * σ) ∨ 31 * (93 * σ + 93) ≤ t) → s'.1 213 t = s.1 213 t) ∧ (∀ t, (t < 31 * σ ∨ 31 * σ + 31 ≤ t) → s'.1 210 t = s.1 210 t) ∧ ∀ t, t ≠ σ → s'.1 211 t = s.1 211 t
theorem fs_fl {s1 : sT} {σ r : Nat} (h : fl s s1 σ r) (h1 : 93 * σ ≤ r) (h2 : r < 93 * σ + 93) : fs s s1 σ := ⟨h.1, fun t ht => h.2.2.1 t (by omega), fun t ht => h.2.2.2.1 t (by omega), h.2.2.2.2.1, h.2.2.2.2.2⟩
theorem fs_trans {s1 s2 : sT} {σ : Nat} (h1 : fs s s1 σ) (h2 : fs s1 s2 σ) : fs s s2 σ := ⟨fk_trans h1.1 h2.1, fun t ht => ⟨(h2.2.1 t ht).1.trans (h1.2.1 t ht).1, (h2.2.1 t ht).2.trans (h1.2.1 t ht).2⟩, fun t ht => (h2.2.2.1 t ht).trans (h1.2.2.1 t ht), fun t ht => (h2.2.2.2.1 t ht).trans (h1.2.2.2.1 t ht), fun t ht => (h2.2.2.2.2 t ht).trans (h1.2.2.2.2 t ht)⟩
theorem fs_put {s1 : sT} {σ c i : Nat} {v : Int32} (h : fs s s1 σ) (hc : (c = 210 ∧ 31 * σ ≤ i ∧ i < 31 * σ + 31) ∨ (c = 211 ∧ i = σ)) : fs s (pV s1 c i v) σ := by
  obtain ⟨h1, h3, h4, h5, h6⟩ := h
  refine ⟨fk_put h1 (by omega), fun t ht => ⟨?_, ?_⟩, fun t ht => ?_, fun t ht => ?_, fun t ht => ?_⟩
  · rw [pV_1, if_neg (by omega)]; exact (h3 t ht).1
  · rw [pV_1, if_neg (by omega)]; exact (h3 t ht).2
  · rw [pV_1, if_neg (by omega)]; exact h4 t ht
  · rw [pV_1, if_neg (by omega)]; exact h5 t ht
  · rw [pV_1, if_neg (by omega)]; exact h6 t ht
theorem fs_refl (s : sT) (σ : Nat) : fs s s σ := ⟨fk_refl s, fun _ _ => ⟨rfl, rfl⟩, fun _ _ => rfl, fun _ _ => rfl, fun _ _ => rfl⟩
/-- a side's rows stay while another's are laid -/
theorem rS_fs {s1 : sT} {T T1 : List Cond} {σ τ : Nat} {X : Cond} (h : rS s T σ X) (hT : ∃ e, T1 = T ++ e) (hf : fs s s1 τ) (hne : σ ≠ τ) (hσ : σ < 2) (hτ : τ < 2) (h30 : ∀ y ∈ tms X, ∀ x, x < 3 → (pt y x).length ≤ 31) : rS s1 T1 σ X := by
  refine ⟨tmO_ext h.1 hT (hf.2.2.2.2 σ hne) (fun i hi => hf.2.2.2.1 _ (by omega)), fun k y x hk hx => ?_⟩
  have hk31 := (List.getElem?_eq_some_iff.mp hk).1
  have := h.1.2.1
  have h2 := rowO_ext (e := []) (v' := s1.1) (h30 y (List.mem_of_getElem? hk) x hx) (h.2 k y x hk hx) (hf.2.1 _ (by omega)).2 (hf.2.1 _ (by omega)).1 (fun i hi => hf.2.2.1 _ (by omega))
  rw [List.append_nil] at h2
  exact h2
theorem r_laysTerms {T U : List Cond} {P σ j : Nat} {X : Cond} {W : Cond → Prop} (hA : am s T U P) (hU : uO U) (hW : clW U W) (hσ : σ < 2) (hj : T[j]? = some X) (cX : cn X) (hz : z0 X ≤ 30) (hWX : W X) (hWd : ∀ z ∈ dp X, W z)
    (h : ∀ s' T' P', am s' T' U P' → (∃ e, T' = T ++ e) → fs s s' σ → rS s' T' σ X → K none s') : tT (yY L xs) (d + 8) 178 0 [.ref 186, .int (nI σ), .int (nI j), .null, .null] [] s K := by
  have hlt := lts_30 hz
  have hjl := (List.getElem?_eq_some_iff.mp hj).1
  have hlen := am_len hA hU
  have WA : ∀ {k : Nat} {A : List Cond}, tmI X k A → ∀ z ∈ A, W z := fun hI z hz => by
    rcases hI.2.1 z hz with e | e
    · rw [e]; exact hWX
    · exact hWd z e
  -- one letter
  have one : ∀ (k x : Nat) (A : List Cond) (y : Cond) (s1 : sT) (T1 : List Cond) (P1 : Nat), x < 3 → am s1 T1 U P1 → (∃ e, T1 = T ++ e) → fs s s1 σ → tmO s1.1 T1 σ A → A[k]? = some y → (∀ z ∈ A, W z) → (ddp A (pt y x)).length ≤ 31 → (∀ k' y' x', A[k']? = some y' → x' < 3 → (k' < k ∨ (k' = k ∧ x' < x)) → rowO s1.1 σ A k' x' y') →
      (∀ s2 T2 P2, am s2 T2 U P2 → (∃ e, T2 = T ++ e) → fs s s2 σ → tmO s2.1 T2 σ (ddp A (pt y x)) → (∀ k' y' x', (ddp A (pt y x))[k']? = some y' → x' < 3 → (k' < k ∨ (k' = k ∧ x' < x + 1)) → rowO s2.1 σ (ddp A (pt y x)) k' x' y') → tT (yY L xs) (d + 8) 178 32 [.ref 186, .int (nI σ), .int (nI j), .int (nI k), .int (nI (x + 1))] [] s2 K) → tT (yY L xs) (d + 8) 178 32 [.ref 186, .int (nI σ), .int (nI j), .int (nI k), .int (nI x)] [] s1 K := by
    intro k x A y s1 T1 P1 hx g1 g2 g3 g4 g5 g6 g7 g8 hK
    refine b_178_32 ?_
    rw [if_neg (by rw [nI_lit 3, nJ_le (by omega) (by omega)]; omega)]
    refine ⟨so_186, r_laysRow g1 hU hW hσ g4 g5 hx (g6 y (List.mem_of_getElem? g5)) g7 (fun s2 T2 P2 q1 q2 q3 q4 q5 => ?_)⟩
    rw [rt_none]
    refine b_178_46 ?_
    rw [← nI_succ]
    obtain ⟨e1, he1⟩ := g2
    obtain ⟨e2, he2⟩ := q2
    have hkA := (List.getElem?_eq_some_iff.mp g5).1
    have hA31 := g4.2.1
    obtain ⟨eA, heA⟩ := ddp_pre A (pt y x)
    refine hK s2 T2 P2 q1 ⟨e1 ++ e2, by rw [he2, he1, List.append_assoc]⟩ (fs_trans g3 (fs_fl q3 (by omega) (by omega))) q4 (fun k' y' x' hk' hx' hlt' => ?_)
    by_cases hlast : k' = k ∧ x' = x
    · obtain ⟨rfl, rfl⟩ := hlast
      rw [heA, List.getElem?_append_left hkA, g5] at hk'
      cases hk'
      exact q5
    · have hkk : k' < A.length := by omega
      have hk2 : A[k']? = some y' := by
        rw [heA, List.getElem?_append_left hkk] at hk'
        exact hk'
      have hy' := hW.1 y' (g6 y' (List.mem_of_getElem? hk2))
      have hp := pt_pt3 y' hx'
      rw [heA]
      refine rowO_ext (by omega) (g8 k' y' x' hk2 hx' (by omega)) ?_ ?_ (fun i hi => ?_)
      · exact (q3.2.2.1 _ (by omega)).2
      · exact (q3.2.2.1 _ (by omega)).1
      · exact q3.2.2.2.1 _ (by omega)
  have loop : ∀ (f k : Nat) (A : List Cond) (s1 : sT) (T1 : List Cond) (P1 : Nat) (u4 : Value), lts X + 1 ≤ f + k → tmI X k A → tmG f k A = tms X → am s1 T1 U P1 → (∃ e, T1 = T ++ e) → fs s s1 σ → tmO s1.1 T1 σ A → (∀ k' y' x', A[k']? = some y' → x' < 3 → k' < k → rowO s1.1 σ A k' x' y') → k ≤ 40 → tT (yY L xs) (d + 8) 178 19 [.ref 186, .int (nI σ), .int (nI j), .int (nI k), u4] [] s1 K := by
    intro f
    induction f with
    | zero =>
      intro k A s1 T1 P1 u4 hf hI hG g1 g2 g3 g4 g5 hk40
      have hl := tmI_len hI
      have e : A = tms X := hG
      refine b_178_19 ⟨211, ⟨so_186, rm_186_35 g1.1.1⟩, 2, ⟨sa_211, inR_nI hσ (by decide)⟩, ?_⟩
      rw [nI_cl (show σ < 2147483648 by omega), g4.2.2.1, if_pos (by rw [nJ_le (by omega) (by omega)]; omega)]
      rw [e] at g4 g5 hl
      refine h s1 T1 P1 g1 g2 g3 ⟨g4, fun k' y' x' hk' hx' => g5 k' y' x' hk' hx' ?_⟩
      have := (List.getElem?_eq_some_iff.mp hk').1
      omega
    | succ f ih =>
      intro k A s1 T1 P1 u4 hf hI hG g1 g2 g3 g4 g5 hk40
      have hl := tmI_len hI
      refine b_178_19 ⟨211, ⟨so_186, rm_186_35 g1.1.1⟩, 2, ⟨sa_211, inR_nI hσ (by decide)⟩, ?_⟩
      rw [nI_cl (show σ < 2147483648 by omega), g4.2.2.1]
      by_cases hkA : k < A.length
      · rw [if_neg (by rw [nJ_le (by omega) (by omega)]; omega)]
        have hy := List.getElem?_eq_getElem hkA
        generalize A[k] = y at hy
        have hG' : tmG f (k + 1) (tst A y) = tms X := by
          rw [← hG]
          show _ = (match A[k]? with | none => A | some y => tmG f (k + 1) (tst A y))
          rw [hy]
        have hI' := tmI_step cX hI hy
        have hl' := tmI_len hI'
        have b2 : (ddp (ddp (ddp A (pt y 0)) (pt y 1)) (pt y 2)).length ≤ 31 := Nat.le_trans hl' (by omega)
        have b1 : (ddp (ddp A (pt y 0)) (pt y 1)).length ≤ 31 := by
          obtain ⟨e, he⟩ := ddp_pre (ddp (ddp A (pt y 0)) (pt y 1)) (pt y 2)
          rw [he, List.length_append] at b2; omega
        have b0 : (ddp A (pt y 0)).length ≤ 31 := by
          obtain ⟨e, he⟩ := ddp_pre (ddp A (pt y 0)) (pt y 1)
          rw [he, List.length_append] at b1; omega
        have Wt : ∀ z ∈ tst A y, W z := WA hI'
        have W1 : ∀ z ∈ ddp A (pt y 0), W z := fun z hz => Wt z (ddp_mem.mpr (Or.inl (ddp_mem.mpr (Or.inl hz))))
        have W2 : ∀ z ∈ ddp (ddp A (pt y 0)) (pt y 1), W z := fun z hz => Wt z (ddp_mem.mpr (Or.inl hz))
        have y1 : (ddp A (pt y 0))[k]? = some y := by
          obtain ⟨e, he⟩ := ddp_pre A (pt y 0)
          rw [he]; exact app_at hy
        have y2 : (ddp (ddp A (pt y 0)) (pt y 1))[k]? = some y := by
          obtain ⟨e, he⟩ := ddp_pre (ddp A (pt y 0)) (pt y 1)
          rw [he]; exact app_at y1
        refine one k 0 A y s1 T1 P1 (by decide) g1 g2 g3 g4 hy (WA hI) b0 (fun k' y' x' a b c => g5 k' y' x' a b (by omega)) (fun s2 T2 P2 r1 r2 r3 r4 r5 => ?_)
        refine one k 1 _ y s2 T2 P2 (by decide) r1 r2 r3 r4 y1 W1 b1 r5 (fun s3 T3 P3 v1 v2 v3 v4 v5 => ?_)
        refine one k 2 _ y s3 T3 P3 (by decide) v1 v2 v3 v4 y2 W2 b2 v5 (fun s4 T4 P4 w1 w2 w3 w4 w5 => ?_)
        refine b_178_32 ?_
        rw [if_pos (by decide), ← nI_succ]
        exact ih (k + 1) (tst A y) s4 T4 P4 _ (by omega) hI' hG' w1 w2 w3 w4 (fun k' y' x' a b c => w5 k' y' x' a b (by omega)) (by omega)
      · rw [if_pos (by rw [nJ_le (by omega) (by omega)]; omega)]
        have e : A = tms X := by
          rw [← hG]
          show _ = (match A[k]? with | none => A | some y => tmG f (k + 1) (tst A y))
          rw [List.getElem?_eq_none (by omega)]
        rw [e] at g4 g5 hkA
        refine h s1 T1 P1 g1 g2 g3 ⟨g4, fun k' y' x' hk' hx' => g5 k' y' x' hk' hx' ?_⟩
        have := (List.getElem?_eq_some_iff.mp hk').1
        omega
  refine b_178_0 ⟨210, ⟨so_186, rm_186_34 hA.1.1⟩, 62, ?_⟩
  rw [nI_lit 31, nJ_mul, nI_cl (show 31 * σ < 2147483648 by omega), nI_cl (show σ < 2147483648 by omega)]
  refine ⟨⟨sa_210, inR_nI (by omega) (by decide)⟩, 211, ⟨so_186, rm_186_35 hA.1.1⟩, 2, ⟨sa_211, inR_nI hσ (by decide)⟩, ?_⟩
  have hI0 : tmI X 0 [X] := ⟨nd_one _, fun z hz => Or.inl (List.mem_singleton.mp hz), fun j y hj => absurd hj (Nat.not_lt_zero _), rfl⟩
  refine loop 32 0 [X] _ T P .null (by omega) hI0 rfl (am_put (am_put hA (by decide)) (by decide)) ⟨[], (List.append_nil _).symm⟩ (fs_put (fs_put (fs_refl s σ) (by omega)) (by omega)) ⟨nd_one _, show 1 ≤ 31 by decide, by rw [pV_1, if_pos ⟨rfl, rfl⟩]; rfl, fun i c hc => ?_⟩ (fun k' y' x' _ _ hk => absurd hk (Nat.not_lt_zero _)) (by decide)
  have hi := (List.getElem?_eq_some_iff.mp hc).1
  have : i = 0 := by rw [List.length_singleton] at hi; omega
  subst this
  cases hc
  exact ⟨j, hj, by rw [pV_1, if_neg (by omega), pV_1, if_pos ⟨rfl, rfl⟩]⟩
/-- what may come on a side -/
def wS (X z : Cond) : Prop := z = S1 ∨ z ∈ nw X
theorem wS_cl {U : List Cond} {X : Cond} (cX : cn X) (hX : z0 X ≤ 30) (h1 : S1 ∈ U) (hU : ∀ z ∈ nw X, z ∈ U) : clW U (wS X) := by
  refine ⟨fun z hz => ?_, fun z c hz hc => ?_, fun a b hz => ?_, fun z l u hz hu => ?_⟩
  · rcases hz with rfl | hz
    · exact ⟨h1, show 1 < 5 by decide, show 1 ≤ 150 by decide, show 0 ≤ 30 by decide⟩
    · obtain ⟨cz, f, hf, hq, -⟩ := nw_dq cX z hz
      have h2 := pt3_le hq
      have h3 := nw_z1 cX hX z hz
      have h4 := lts_30 hX
      exact ⟨hU z hz, cz, by omega, by omega⟩
  · rcases hz with rfl | hz
    · cases hc
    · exact Or.inr (nw_chl cX z hz c hc)
  · rcases hz with hz | hz
    · cases hz
    · exact Or.inr (nw_rest cX a b hz)
  · rcases hz with rfl | hz
    · have e : pt S1 l = [] := by show (if 1 = 2 + l then _ else _) = _; rw [if_neg (by omega)]
      rw [e] at hu; cases hu
    · exact nw_pt cX hz hu
theorem wS_dp {X : Cond} (cX : cn X) : ∀ z ∈ dp X, wS X z := fun z hz => (dp_sf cX z hz).elim Or.inl (fun h => Or.inr (sf_nw z h))
theorem tms_pt {X y : Cond} {x : Nat} (cX : cn X) (hX : z0 X ≤ 30) (hy : y ∈ tms X) (hx : x < 3) : (pt y x).length ≤ 30 := by
  have hl := lts_30 hX
  have h1 := pt_three cX ((tms_all cX (by omega)).2.1 y hy)
  have h2 := pt_pt3 y hx
  unfold pt3 at h2
  omega
theorem txL_at {l : List Int32} {i : Nat} {c : Int32} (h : l[i]? = some c) : (txL l).2 i = c := by
  show l.getD i 0 = c
  rw [List.getD_eq_getElem?_getD, h]; rfl
theorem r_laysBoth {p q : Nat} {X Z : Cond} (hM : rM s.2) (cX : cn X) (hX : z0 X ≤ 30) (cZ : cn Z) (hZ : z0 Z ≤ 30) (hp : txR (s.1 187) p (txL (sp X 0))) (hq : txR (s.1 187) q (txL (sp Z 0))) (hpl : p ≤ 1000) (hql : q ≤ 1000)
    (h : ∀ s' T, tb s' T → T.length < 1500 → pn T + 150 ≤ 24000 → fk s s' → rS s' T 0 X → rS s' T 1 Z → K none s') : tT (yY L xs) (d + 9) 180 0 [.ref 186, .int (nI p), .int (nI q), .null, .null] [] s K := by
  have lX : (sp X 0).length ≤ 30 := hX
  have lZ : (sp Z 0).length ≤ 30 := hZ
  refine b_180_0 ⟨so_186, r_clears hM (fun s1 a1 a2 a3 a4 => ?_)⟩
  rw [rt_none]
  have e187 : s1.1 187 = s.1 187 := a2.2.1 187 (by decide) (by decide)
  refine b_180_4 ⟨187, ⟨so_186, rm_186_0 a1.1⟩, 187, ⟨so_186, rm_186_0 a1.1⟩, 42882, ⟨sa_187, inR_nI (by omega) (by decide)⟩, so_186, ?_⟩
  rw [nI_cl (by omega), e187, hp.1, ← nI_succ]
  refine r_told (T := T5) (txt := sp X 0) (m := 42882) a1 (by show 5 + 2 * _ + 2 < 1500; omega) (by show 3 + 64 * _ + 300 ≤ 24000; omega) lX sa_187 (by omega) (by decide) (Or.inl rfl) (fun i c hc => ?_) (fun f s' T' e => ?_) (fun x s2 T2 j1 e b1 b2 b3 b4 b5 b6 b7 b8 => ?_)
  · have hi := (List.getElem?_eq_some_iff.mp hc).1
    rw [e187, hp.2 i hi, txL_at hc]
  · rw [rd_back cX] at e; cases e
  rw [rd_back cX] at e
  cases e
  rw [rt_some]
  have f2 := fk_trans a2 b4.1
  have e187' : s2.1 187 = s.1 187 := f2.2.1 187 (by decide) (by decide)
  have l5 : T5.length = 5 := rfl
  have p5 : pn T5 = 3 := rfl
  rw [l5] at b5
  rw [p5] at b6
  refine b_180_21 ⟨187, ⟨so_186, rm_186_0 b3.1⟩, 187, ⟨so_186, rm_186_0 b3.1⟩, 42882, ⟨sa_187, inR_nI (by omega) (by decide)⟩, so_186, ?_⟩
  rw [nI_cl (by omega), e187', hq.1, ← nI_succ]
  refine r_told (T := T2) (txt := sp Z 0) (m := 42882) b3 (by omega) (by omega) lZ sa_187 (by omega) (by decide) (Or.inl rfl) (fun i c hc => ?_) (fun f s' T' e => ?_) (fun x s3 T3 j2 e c1 c2 c3 c4 c5 c6 c7 c8 => ?_)
  · have hi := (List.getElem?_eq_some_iff.mp hc).1
    rw [e187', hq.2 i hi, txL_at hc]
  · rw [rd_back cZ] at e; cases e
  rw [rd_back cZ] at e
  cases e
  rw [rt_some]
  have f3 := fk_trans f2 c4.1
  have nX := nw_30 cX hX
  have nZ := nw_30 cZ hZ
  have hU : uO (T3 ++ (nw X ++ nw Z)) := by
    constructor
    · rw [List.length_append, List.length_append]; omega
    · rw [pn_app, pn_app]; omega
  have hall : ∀ t, t < 3 * T3.length → s3.1 198 t = -1 := by
    intro t ht
    by_cases h2 : t < 3 * T2.length
    · rw [c4.2.2.2.1 t h2]
      by_cases h1 : t < 15
      · rw [b4.2.2.2.1 t (by rw [l5]; omega)]; exact a4 t h1
      · exact b4.2.2.2.2 t (by rw [l5]; omega) h2
    · exact c4.2.2.2.2 t (by omega) ht
  have hA3 : am s3 T3 (T3 ++ (nw X ++ nw Z)) 0 := by
    refine ⟨c3, fun z hz => List.mem_append_left _ hz, by rw [c4.2.1, b4.2.1, a3]; rfl, ?_, fun k y x hk hx => Or.inl (hall _ ?_)⟩
    · have := psum_zero (f := lfn s3.1) (a := 0) (3 * T3.length) (fun t _ ht => by unfold lfn; rw [if_pos (hall t (by omega))])
      rw [Nat.zero_add] at this
      rw [this]; rfl
    · have := (List.getElem?_eq_some_iff.mp hk).1
      omega
  have hS1 : S1 ∈ T3 ++ (nw X ++ nw Z) := List.mem_append_left _ (List.mem_of_getElem? (tbA5 c3 1 (by decide)))
  have hj1 : T3[j1]? = some X := by
    obtain ⟨e, he⟩ := c4.2.2.1
    rw [he]; exact app_at b8
  have W0 := wS_cl (U := T3 ++ (nw X ++ nw Z)) cX hX hS1 (fun z hz => List.mem_append_right _ (List.mem_append_left _ hz))
  have W1 := wS_cl (U := T3 ++ (nw X ++ nw Z)) cZ hZ hS1 (fun z hz => List.mem_append_right _ (List.mem_append_right _ hz))
  refine b_180_39 ⟨so_186, r_laysTerms (σ := 0) hA3 hU W0 (by decide) hj1 cX hX (Or.inr (nw_self X)) (wS_dp cX) (fun s4 T4 P4 r1 r2 r3 r4 => ?_)⟩
  rw [rt_none]
  obtain ⟨e4, he4⟩ := r2
  have hj2 : T4[j2]? = some Z := by rw [he4]; exact app_at c8
  refine b_180_47 ⟨so_186, r_laysTerms (σ := 1) r1 hU W1 (by decide) hj2 cZ hZ (Or.inr (nw_self Z)) (wS_dp cZ) (fun s5 T5' P5 v1 v2 v3 v4 => ?_)⟩
  rw [rt_none]
  have hl5 := am_len v1 hU
  exact b_180_54 (h s5 T5' v1.1 hl5.1 hl5.2 (fk_trans (fk_trans f3 r3.1) v3.1) (rS_fs r4 v2 v3 (by decide) (by decide) (by decide) (fun y hy x hx => by have := tms_pt cX hX hy hx; omega)) v4)
end LT
