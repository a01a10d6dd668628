/-! WORDS: how many, which; by the class -/
def kth (F0 F1 : List Cond) (w : Nat) : Nat → Int32 → Int32 → Nat → Nat → Nat
  | 0, _, _, _, t => t
  | n + 1, A, B, k, t =>
    if k < cw F0 F1 w n (pso F0 A 0 F0.length) (pso F1 B 0 F1.length) then kth F0 F1 w n (pso F0 A 0 F0.length) (pso F1 B 0 F1.length) k (t * 4 + 0 + 1)
    else if k - cw F0 F1 w n (pso F0 A 0 F0.length) (pso F1 B 0 F1.length) < cw F0 F1 w n (pso F0 A 1 F0.length) (pso F1 B 1 F1.length) then kth F0 F1 w n (pso F0 A 1 F0.length) (pso F1 B 1 F1.length) (k - cw F0 F1 w n (pso F0 A 0 F0.length) (pso F1 B 0 F1.length)) (t * 4 + 1 + 1)
    else kth F0 F1 w n (pso F0 A 2 F0.length) (pso F1 B 2 F1.length) (k - cw F0 F1 w n (pso F0 A 0 F0.length) (pso F1 B 0 F1.length) - cw F0 F1 w n (pso F0 A 1 F0.length) (pso F1 B 1 F1.length)) (t * 4 + 2 + 1)
theorem kth_w1 (F0 F1 : List Cond) : ∀ n A A' B k t, kth F0 F1 1 n A B k t = kth F0 F1 1 n A' B k t
  | 0, A, A', B, k, t => rfl
  | n + 1, A, A', B, k, t => by
    unfold kth
    rw [cw_w1 F0 F1 n (pso F0 A 0 F0.length) (pso F0 A' 0 F0.length), cw_w1 F0 F1 n (pso F0 A 1 F0.length) (pso F0 A' 1 F0.length), kth_w1 F0 F1 n (pso F0 A 0 F0.length) (pso F0 A' 0 F0.length), kth_w1 F0 F1 n (pso F0 A 1 F0.length) (pso F0 A' 1 F0.length), kth_w1 F0 F1 n (pso F0 A 2 F0.length) (pso F0 A' 2 F0.length)]
theorem kth_w0 (F0 F1 : List Cond) : ∀ n A B B' k t, kth F0 F1 0 n A B k t = kth F0 F1 0 n A B' k t
  | 0, A, B, B', k, t => rfl
  | n + 1, A, B, B', k, t => by
    unfold kth
    rw [cw_w0 F0 F1 n _ (pso F1 B 0 F1.length) (pso F1 B' 0 F1.length), cw_w0 F0 F1 n _ (pso F1 B 1 F1.length) (pso F1 B' 1 F1.length), kth_w0 F0 F1 n _ (pso F1 B 0 F1.length) (pso F1 B' 0 F1.length), kth_w0 F0 F1 n _ (pso F1 B 1 F1.length) (pso F1 B' 1 F1.length), kth_w0 F0 F1 n _ (pso F1 B 2 F1.length) (pso F1 B' 2 F1.length)]
def stL (w : Nat) : Int32 := if w = 1 then 0 else 1
def stR (w : Nat) : Int32 := if w = 0 then 0 else 1
theorem cw_st (F0 F1 : List Cond) (w n : Nat) : cw F0 F1 w n (stL w) (stR w) = cw F0 F1 w n 1 1 := by
  unfold stL stR
  by_cases h1 : w = 1
  · subst h1; rw [if_pos rfl, if_neg (by decide)]; exact cw_w1 F0 F1 n _ _ _
  · rw [if_neg h1]
    by_cases h0 : w = 0
    · subst h0; rw [if_pos rfl]; exact cw_w0 F0 F1 n _ _ _
    · rw [if_neg h0]
theorem kth_st (F0 F1 : List Cond) (w n k t : Nat) : kth F0 F1 w n (stL w) (stR w) k t = kth F0 F1 w n 1 1 k t := by
  unfold stL stR
  by_cases h1 : w = 1
  · subst h1; rw [if_pos rfl, if_neg (by decide)]; exact kth_w1 F0 F1 n _ _ _ _ _
  · rw [if_neg h1]
    by_cases h0 : w = 0
    · subst h0; rw [if_pos rfl]; exact kth_w0 F0 F1 n _ _ _ _ _
    · rw [if_neg h0]
theorem rP_56 {ρ ρ' : Nat → Nat → Option Nat} (h : rP ρ) (hρ : ∀ i k, ¬ (i = 56 ∧ 4 ≤ k) → ρ' i k = ρ i k) : rP ρ' := by
  unfold rP at h ⊢
  simp only [hρ, Nat.reduceEqDiff, false_and, not_false_eq_true, Nat.reduceLeDiff, and_false]
  exact h
section NT
variable {L : Nat} {xs : Nat → Int32} {d : Nat} {s : sT} {K : Option Int32 → sT → Prop} {X0 X1 : Cond} {c0 c1 w : Nat} {R : rmT} {I : Nat → Option rmT}
theorem c_behind (hw : w < 6) {n x : Nat} (hn : n ≤ 8) (hx : x < 3) {A B : Int32} (hQ1 : wQ L xs s c0 c1 X0 X1 w) (hK1 : ∀ s', fY s s' → wQ L xs s' c0 c1 X0 X1 w → K (some (nI (cw (tms X0) (tms X1) w n (pso (tms X0) A x (tms X0).length) (pso (tms X1) B x (tms X1).length)))) s') : tT (yY L xs) (d + 19) 108 0 [.ref 56, .int A, .int B, .int (nI x), .int (nI n)] [] s K := by
  obtain ⟨hP, ⟨r4, r5⟩, ⟨x0, -⟩, ⟨x1, -⟩, -, -⟩ := id hQ1
  refine b_108_0 ⟨c0, ⟨so_56, r4⟩, x0.1.1, c_partsOfSet x0 hx ?_⟩
  rw [rt_some]
  refine b_108_10 ⟨c1, ⟨so_56, r5⟩, x1.1.1, c_partsOfSet x1 hx ?_⟩
  rw [rt_some]
  refine b_108_19 ⟨so_56, tt_mono (c_countFrom hw n hn d _ _ s _ hQ1 (fun s' f q => ?_)) (by omega) (fun _ _ q => q)⟩
  rw [rt_some]
  exact b_108_24 (hK1 s' f q)
/-- frame of the counter -/
def fZ (s s' : sT) : Prop := (∀ z, z ≠ 56 → s'.2 z = s.2 z) ∧ ∀ z, ¬ (56 ≤ z ∧ z ≤ 60) → s'.1 z = s.1 z
theorem fZ_Y {s1 s2 : sT} (h : fZ s s1) (f : fY s1 s2) : fZ s s2 := ⟨fun z hz => by rw [f.1]; exact h.1 z hz, fun z hz => (f.2 z (by omega)).trans (h.2 z hz)⟩
theorem c_howMany (hw : w < 6) {n : Nat} (hn : n ≤ 8) (hP : rP s.2) (x0 : sdX L xs s c0 X0) (x1 : sdX L xs s c1 X1) (hc0 : c0 = 65 ∨ c0 = 74) (hc1 : c1 = 65 ∨ c1 = 74)
    (hK : ∀ s', fZ s s' → wQ L xs s' c0 c1 X0 X1 w → K (some (nI (cw (tms X0) (tms X1) w n 1 1))) s') : tT (yY L xs) (d + 19) 103 0 [.ref 56, .ref c0, .ref c1, .int (nI w), .int (nI n)] [] s K := by
  have n2 : ∀ i k, ¬ (i = 56 ∧ 4 ≤ k) → (pV (pR (pR s 56 4 (some c0)) 56 5 (some c1)) 56 6 (nI w)).2 i k = s.2 i k := fun i k h => by
    rw [pV_2, pR_2, if_neg (by omega), pR_2, if_neg (by omega)]
  have q4 : (pV (pR (pR s 56 4 (some c0)) 56 5 (some c1)) 56 6 (nI w)).2 56 4 = some c0 := by rw [pV_2, pR_2, if_neg (by decide), pR_2, if_pos ⟨rfl, rfl⟩]
  have q5 : (pV (pR (pR s 56 4 (some c0)) 56 5 (some c1)) 56 6 (nI w)).2 56 5 = some c1 := by rw [pV_2, pR_2, if_pos ⟨rfl, rfl⟩]
  have n6 : (pV (pR (pR s 56 4 (some c0)) 56 5 (some c1)) 56 6 (nI w)).1 56 6 = nI w := by rw [pV_1, if_pos ⟨rfl, rfl⟩]
  have n1 : ∀ z, z ≠ 56 → (pV (pR (pR s 56 4 (some c0)) 56 5 (some c1)) 56 6 (nI w)).1 z = s.1 z := fun z hz => funext fun j => by rw [pV_1, if_neg (by omega)]; rfl
  refine b_103_0 ⟨so_56, b_105_0 ⟨so_56, so_56, so_56, 59, ?_⟩⟩
  generalize pV (pR (pR s 56 4 (some c0)) 56 5 (some c1)) 56 6 (nI w) = s3 at n1 n2 q4 q5 n6 ⊢
  have hP3 : rP s3.2 := rP_56 hP n2
  refine ⟨⟨so_56, rp_56_2 hP3⟩, c_fill sa_59 (by decide) (fun s4 e2 eo e59 => ?_)⟩
  rw [rt_none]
  refine b_105_23 ?_
  rw [rt_none]
  have hP4 : rP s4.2 := by rw [e2]; exact hP3
  have n47 : ∀ z, z ≠ 56 → s4.2 z = s.2 z := fun z hz => by rw [e2]; exact funext fun k => n2 z k (fun q => hz q.1)
  have o4 : ∀ z, ¬ (56 ≤ z ∧ z ≤ 60) → s4.1 z = s.1 z := fun z hz => by rw [eo z (by omega)]; exact n1 z (by omega)
  have h6 : s4.1 56 6 = nI w := by rw [eo 56 (by decide)]; exact n6
  have sdk : ∀ c, (c = 65 ∨ c = 74) → sdK (yY L xs) s4.2 c := fun c hc => by
    rcases hc with rfl | rfl
    · exact sk_65 hP4
    · exact sk_74 hP4
  have hQ : wQ L xs s4 c0 c1 X0 X1 w := ⟨hP4, by rw [e2]; exact ⟨q4, q5⟩, ⟨⟨sdk c0 hc0, sdC_off x0.2.1 (fun i a b => o4 i (by omega)), x0.2.2⟩, hc0⟩, ⟨⟨sdk c1 hc1, sdC_off x1.2.1 (fun i a b => o4 i (by omega)), x1.2.2⟩, hc1⟩, h6, fun i r hi h1 h8 e => by
    rw [e59 i hi] at e
    exact absurd e.symm (nn1 (by omega))⟩
  refine b_103_7 ⟨so_56, b_106_0 ⟨so_56, ?_⟩⟩
  have e1 : ∀ {P Q : Prop}, (if ¬ s4.1 56 6 = 1 then P else Q) = if w = 1 then Q else P := fun {P Q} => by
    rw [h6]
    by_cases e : w = 1
    · subst e; rw [if_neg (fun q => q rfl), if_pos rfl]
    · rw [if_pos (by rw [nI_lit 1, nJ_eq (by omega) (by omega)]; exact e), if_neg e]
  have e0 : ∀ {P Q : Prop}, (if ¬ s4.1 56 6 = 0 then P else Q) = if w = 0 then Q else P := fun {P Q} => by
    rw [h6]
    by_cases e : w = 0
    · subst e; rw [if_neg (fun q => q rfl), if_pos rfl]
    · rw [if_pos (by rw [nI_lit 0, nJ_eq (by omega) (by omega)]; exact e), if_neg e]
  rw [e1]
  have go : tT (yY L xs) (d + 19) 103 12 [.ref 56, .ref c0, .ref c1, .int (nI w), .int (nI n)] [.int (stL w), .ref 56] s4 K := by
    refine b_103_12 ⟨so_56, b_107_0 ⟨so_56, ?_⟩⟩
    rw [e0]
    have go2 : tT (yY L xs) (d + 19) 103 16 [.ref 56, .ref c0, .ref c1, .int (nI w), .int (nI n)] [.int (stR w), .int (stL w), .ref 56] s4 K := by
      refine b_103_16 ⟨so_56, tt_mono (c_countFrom hw n hn d _ _ s4 _ hQ (fun s5 f5 hQ5 => ?_)) (by omega) (fun _ _ q => q)⟩
      rw [rt_some, cw_st]
      exact b_103_21 (hK s5 (fZ_Y ⟨n47, o4⟩ f5) hQ5)
    unfold stR at go2
    by_cases e : w = 0
    · rw [if_pos e] at go2 ⊢; exact go2
    · rw [if_neg e] at go2 ⊢; exact go2
  unfold stL at go
  by_cases e : w = 1
  · rw [if_pos e] at go ⊢; exact go
  · rw [if_neg e] at go ⊢; exact go
theorem c_nth (hw : w < 6) {n k : Nat} (hn : n ≤ 8) (hk : k < 2147483648) (hP : rP s.2) (x0 : sdX L xs s c0 X0) (x1 : sdX L xs s c1 X1) (hc0 : c0 = 65 ∨ c0 = 74) (hc1 : c1 = 65 ∨ c1 = 74)
    (h1 : k < cw (tms X0) (tms X1) w n 1 1 → ∀ s', fZ s s' → rP s'.2 → K (some (nI (kth (tms X0) (tms X1) w n 1 1 k 0))) s') (h0 : ¬ k < cw (tms X0) (tms X1) w n 1 1 → ∀ s', fZ s s' → rP s'.2 → K (some (-1)) s') : tT (yY L xs) (d + 20) 104 0 [.ref 56, .ref c0, .ref c1, .int (nI w), .int (nI n), .int (nI k), .null, .null, .null, .null, .null, .null, .null] [] s K := by
  have hcn := cw_le (tms X0) (tms X1) w n 1 1
  have hp8 := p38 n hn
  refine b_104_0 ⟨so_56, c_howMany (d := d) hw hn hP x0 x1 hc0 hc1 (fun s1 f1 hQ1 => ?_)⟩
  rw [rt_some]
  refine b_104_11 ?_
  by_cases hlt : k < cw (tms X0) (tms X1) w n 1 1
  case neg =>
    rw [if_neg (by rw [nJ_lt (by omega) (by omega)]; exact hlt)]
    exact h0 hlt s1 f1 hQ1.1
  rw [if_pos (by rw [nJ_lt (by omega) (by omega)]; exact hlt)]
  have fin := h1 hlt
  have h6 := hQ1.2.2.2.2.1
  -- letter by letter
  have loop : ∀ m A B k t (s2 : sT) u11 u12, m ≤ 8 → k < 6561 → fZ s s2 → wQ L xs s2 c0 c1 X0 X1 w → (∀ s', fZ s s' → rP s'.2 → K (some (nI (kth (tms X0) (tms X1) w m A B k t))) s') → ∀ x5 : Int32, tT (yY L xs) (d + 20) 104 41 [.ref 56, .ref c0, .ref c1, .int (nI w), .int (nI n), .int x5, .int A, .int B, .int (nI k), .int (nI t), .int (nI m - 1), u11, u12] [] s2 K := by
    intro m
    induction m with
    | zero =>
      intro A B k t s2 u11 u12 hm hk f2 hQ2 hK x5
      refine b_104_41 ?_
      rw [if_pos (by decide)]
      exact hK s2 f2 hQ2.1
    | succ m ih =>
      intro A B k t s2 u11 u12 hm hk f2 hQ2 hK x5
      have hp := p38 m (by omega)
      -- the letter is chosen
      have pick : ∀ (x k' v : Nat) (s3 : sT), x < 3 → k' < 6561 → fZ s s3 → wQ L xs s3 c0 c1 X0 X1 w → (∀ s', fZ s s' → rP s'.2 → K (some (nI (kth (tms X0) (tms X1) w m (pso (tms X0) A x (tms X0).length) (pso (tms X1) B x (tms X1).length) k' (t * 4 + x + 1)))) s') → tT (yY L xs) (d + 20) 104 103 [.ref 56, .ref c0, .ref c1, .int (nI w), .int (nI n), .int x5, .int A, .int B, .int (nI k'), .int (nI t), .int (nI m), .int (nI x), .int (nI v)] [] s3 K := fun x k' v s3 hx hk' f3 hQ3 hK3 => by
        obtain ⟨hP3, ⟨r4, r5⟩, ⟨y0, -⟩, ⟨y1, -⟩, -, -⟩ := id hQ3
        refine b_104_103 ⟨c0, ⟨so_56, r4⟩, y0.1.1, c_partsOfSet y0 hx ?_⟩
        rw [rt_some]
        refine b_104_125 ⟨c1, ⟨so_56, r5⟩, y1.1.1, c_partsOfSet y1 hx ?_⟩
        rw [rt_some]
        refine b_104_138 ?_
        rw [nI_lit 4, nI_lit 1, nJ_mul, nJ_add, nJ_add, ← nI_lit 1, show nI m + -1 = nI m - 1 by rw [Int32.sub_eq_add_neg]]
        exact ih _ _ k' (t * 4 + x + 1) s3 _ _ (by omega) hk' f3 hQ3 hK3 x5
      generalize e0 : cw (tms X0) (tms X1) w m (pso (tms X0) A 0 (tms X0).length) (pso (tms X1) B 0 (tms X1).length) = a0
      generalize e1 : cw (tms X0) (tms X1) w m (pso (tms X0) A 1 (tms X0).length) (pso (tms X1) B 1 (tms X1).length) = a1
      have l0 : a0 ≤ 6561 := by rw [← e0]; exact Nat.le_trans (cw_le _ _ _ _ _ _) hp
      have l1 : a1 ≤ 6561 := by rw [← e1]; exact Nat.le_trans (cw_le _ _ _ _ _ _) hp
      have hK : ∀ s', fZ s s' → rP s'.2 → K (some (nI (if k < a0 then kth (tms X0) (tms X1) w m (pso (tms X0) A 0 (tms X0).length) (pso (tms X1) B 0 (tms X1).length) k (t * 4 + 0 + 1) else if k - a0 < a1 then kth (tms X0) (tms X1) w m (pso (tms X0) A 1 (tms X0).length) (pso (tms X1) B 1 (tms X1).length) (k - a0) (t * 4 + 1 + 1) else kth (tms X0) (tms X1) w m (pso (tms X0) A 2 (tms X0).length) (pso (tms X1) B 2 (tms X1).length) (k - a0 - a1) (t * 4 + 2 + 1)))) s' := fun s' a b => by
        have := hK s' a b
        unfold kth at this
        rw [e0, e1] at this
        exact this
      refine b_104_41 ?_
      rw [nI_sub1, if_neg (nI_nn (by omega))]
      refine ⟨so_56, c_behind (d := d) (x := 0) hw (by omega) (by decide) hQ2 (fun s3 f3 hQ3 => ?_)⟩
      rw [rt_some, e0]
      refine b_104_61 (b_104_63 ?_)
      rw [if_neg (by decide)]
      have g3 := fZ_Y f2 f3
      by_cases c1' : k < a0
      · rw [if_pos (by rw [nJ_lt (by omega) (by omega)]; exact c1')]
        rw [if_pos c1'] at hK
        exact pick 0 k a0 s3 (by decide) hk g3 hQ3 hK
      rw [if_neg (by rw [nJ_lt (by omega) (by omega)]; exact c1')]
      rw [if_neg c1'] at hK
      refine ⟨so_56, c_behind (d := d) (x := 1) hw (by omega) (by decide) hQ3 (fun s4 f4 hQ4 => ?_)⟩
      rw [rt_some, e1]
      have g4 := fZ_Y g3 f4
      refine b_104_98 (b_104_63 ?_)
      rw [if_neg (by decide), nJ_sub (by omega)]
      by_cases c2' : k - a0 < a1
      · rw [if_pos (by rw [nJ_lt (by omega) (by omega)]; exact c2')]
        rw [if_pos c2'] at hK
        exact pick 1 (k - a0) a1 s4 (by decide) (by omega) g4 hQ4 hK
      rw [if_neg (by rw [nJ_lt (by omega) (by omega)]; exact c2')]
      rw [if_neg c2'] at hK
      refine ⟨so_56, c_behind (d := d) (x := 2) hw (by omega) (by decide) hQ4 (fun s5 f5 hQ5 => ?_)⟩
      rw [rt_some]
      have g5 := fZ_Y g4 f5
      refine b_104_98 (b_104_63 ?_)
      rw [if_pos (by decide), nJ_sub (by omega)]
      exact pick 2 (k - a0 - a1) _ s5 (by decide) (by omega) g5 hQ5 hK
  refine ⟨so_56, b_106_0 ⟨so_56, ?_⟩⟩
  have go : tT (yY L xs) (d + 20) 104 20 [.ref 56, .ref c0, .ref c1, .int (nI w), .int (nI n), .int (nI k), .null, .null, .null, .null, .null, .null, .null] [.int (stL w)] s1 K := by
    refine b_104_20 ⟨so_56, b_107_0 ⟨so_56, ?_⟩⟩
    have go2 : tT (yY L xs) (d + 20) 104 26 [.ref 56, .ref c0, .ref c1, .int (nI w), .int (nI n), .int (nI k), .int (stL w), .null, .null, .null, .null, .null, .null] [.int (stR w)] s1 K := by
      refine b_104_26 (loop n (stL w) (stR w) k 0 s1 _ _ hn (by omega) f1 hQ1 (fun s' a b => ?_) _)
      rw [kth_st]
      exact fin s' a b
    rw [h6]
    by_cases e : w = 0
    · have es : stR w = 0 := if_pos e
      rw [es] at go2
      rw [if_neg (fun q => q (by rw [e]; rfl))]
      exact go2
    · have es : stR w = 1 := if_neg e
      rw [es] at go2
      rw [if_pos (by rw [nI_lit 0, nJ_eq (by omega) (by omega)]; exact e)]
      exact go2
  rw [h6]
  by_cases e : w = 1
  · have es : stL w = 0 := if_pos e
    rw [es] at go
    rw [if_neg (fun q => q (by rw [e]; rfl))]
    exact go
  · have es : stL w = 1 := if_neg e
    rw [es] at go
    rw [if_pos (by rw [nI_lit 1, nJ_eq (by omega) (by omega)]; exact e)]
    exact go
end NT
