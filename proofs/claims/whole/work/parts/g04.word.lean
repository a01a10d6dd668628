/-! WORDS, by the reference: listed -/
section LW
variable {L : Nat} {xs : Nat → Int32} {d : Nat} {s : sT} {K : Option Int32 → sT → Prop} {T : List Cond} {X0 X1 : Cond} {w N : Nat}
theorem r_endOn (hM : rM s.2) (hN : N ≤ 8) (hL : lO s (List.replicate N 2)) (hK : ∀ s', fL' s s' → K (some 0) s') : tT (yY L xs) d 224 0 [.ref 186, .int (nI N), .null] [] s K := by
  have e2 : ∀ j, j < N → s.1 218 j = 2 := fun j hj => hL j 2 (by rw [List.getElem?_replicate, if_pos hj])
  have loop : ∀ q (s1 : sT), q ≤ N → fL' s s1 → (∀ j, j < q → s1.1 218 j = 2) → tT (yY L xs) d 224 4 [.ref 186, .int (nI N), .int (nI q - 1)] [] s1 K := by
    intro q
    induction q with
    | zero =>
      intro s1 hq f1 lo
      refine b_224_4 ?_
      rw [if_pos (by decide)]
      refine b_224_31 ?_
      rw [if_pos (by decide)]
      refine b_224_45 ?_
      rw [if_pos (by decide)]
      exact hK s1 f1
    | succ q ih =>
      intro s1 hq f1 lo
      have hM1 : rM s1.2 := by rw [f1.1]; exact hM
      refine b_224_4 ?_
      rw [nI_sub1, if_neg (nI_nn (by omega))]
      refine ⟨218, ⟨so_186, rm_186_45 hM1⟩, 8, ⟨sa_218, inR_nI (by omega) (by decide)⟩, ?_⟩
      rw [nI_cl (show q < 2147483648 by omega), lo q (by omega), if_neg (fun q => q rfl)]
      refine ⟨218, ⟨so_186, rm_186_45 hM1⟩, 8, ⟨sa_218, inR_nI (by omega) (by decide)⟩, ?_⟩
      rw [show nI q + -1 = nI q - 1 by rw [Int32.sub_eq_add_neg]]
      exact ih _ (by omega) (fL'_put f1) (fun j hj => by rw [pV_1, if_neg (by omega)]; exact lo j (by omega))
  exact b_224_0 (loop N s (Nat.le_refl _) (fL'_refl s) e2)
/-- is the word asked for among these? -/
def fdB (x3 : Int32) (c n : Nat) : Prop := ∃ k, x3 = nI k ∧ k < 2147483648 ∧ c ≤ k ∧ k < c + n
theorem r_block (hw : w < 6) (hN : N ≤ 8) (x3 : Int32) : ∀ m (U : List Nat) c (s1 : sT), U.length + m = N → (∀ x ∈ U, x < 3) → c + 3 ^ m ≤ 7000 → rT s1 T X0 X1 → lO s1 (U ++ List.replicate m 0) →
    (∀ k, x3 = nI k → k < 2147483648 → c ≤ k → k < c + cw (tms X0) (tms X1) w m (runS (tms X0) U) (runS (tms X1) U) → ∀ s', fL' s1 s' → K (some (nI (kth (tms X0) (tms X1) w m (runS (tms X0) U) (runS (tms X1) U) (k - c) (num U)))) s') →
    (¬ fdB x3 c (cw (tms X0) (tms X1) w m (runS (tms X0) U) (runS (tms X1) U)) → ∀ s', fL' s1 s' → lO s' (U ++ List.replicate m 2) → tT (yY L xs) (d + 4) 226 86 [.ref 186, .int (nI w), .int (nI N), .int x3, .int (nI (c + cw (tms X0) (tms X1) w m (runS (tms X0) U) (runS (tms X1) U))), .int 1] [] s' K) →
    tT (yY L xs) (d + 4) 226 57 [.ref 186, .int (nI w), .int (nI N), .int x3, .int (nI c), .int 1] [] s1 K := by
  intro m
  induction m with
  | zero =>
    intro U c s1 hU h3 hc hT hL hf hg
    have hL : lO s1 U := by
      have := hL
      rw [List.replicate_zero, List.append_nil] at this; exact this
    have hUN : U.length = N := by omega
    refine b_226_57 ?_
    rw [if_neg (by decide), ← hUN]
    refine ⟨so_186, r_isOne (d := d) hT hw (by omega) h3 hL ?_⟩
    rw [rt_some]
    refine b_226_68 ?_
    have hcw : cw (tms X0) (tms X1) w 0 (runS (tms X0) U) (runS (tms X1) U) = if ftB w (anyF (tms X0) (runS (tms X0) U)) (anyF (tms X1) (runS (tms X1) U)) = true then 1 else 0 := rfl
    have hL2 : lO s1 (U ++ List.replicate 0 2) := by rw [List.replicate_zero, List.append_nil]; exact hL
    cases hfit : ftB w (anyF (tms X0) (runS (tms X0) U)) (anyF (tms X1) (runS (tms X1) U)) with
    | false =>
      rw [hfit, if_neg (by decide)] at hcw
      rw [if_pos (show bz false = 0 from rfl), hUN]
      have := hg (by rintro ⟨k, q1, q2, q3, q4⟩; omega) s1 (fL'_refl s1) hL2
      rw [hcw] at this
      exact this
    | true =>
      rw [hfit, if_pos rfl] at hcw
      rw [if_neg (by decide)]
      by_cases hk : nI c = x3
      · rw [if_neg (fun q => q hk)]
        refine ⟨so_186, r_number hT.1.1 (by omega) hL ?_⟩
        rw [rt_some]
        exact b_226_82 (hf c hk.symm (by omega) (Nat.le_refl _) (by omega) s1 (fL'_refl s1))
      · rw [if_pos hk, hUN, ← nI_succ c]
        have := hg (by
          rintro ⟨k, q1, q2, q3, q4⟩
          exact hk (by rw [q1]; congr 1; omega)) s1 (fL'_refl s1) hL2
        rw [hcw] at this
        exact this
  | succ m ih =>
    intro U c s1 hU h3 hc hT hL hf hg
    have hpow : 3 ^ (m + 1) = 3 * 3 ^ m := by rw [Nat.pow_succ]; omega
    have in3 : ∀ x, x < 3 → ∀ z ∈ U ++ [x], z < 3 := fun x hx z hz => by
      rcases List.mem_append.mp hz with q | q
      · exact h3 z q
      · rw [List.mem_singleton.mp q]; exact hx
    have len1 : ∀ x : Nat, (U ++ [x]).length + m = N := fun x => by rw [List.length_append]; show U.length + 1 + m = N; omega
    generalize e0 : cw (tms X0) (tms X1) w m (pso (tms X0) (runS (tms X0) U) 0 (tms X0).length) (pso (tms X1) (runS (tms X1) U) 0 (tms X1).length) = a0
    generalize e1 : cw (tms X0) (tms X1) w m (pso (tms X0) (runS (tms X0) U) 1 (tms X0).length) (pso (tms X1) (runS (tms X1) U) 1 (tms X1).length) = a1
    generalize e2 : cw (tms X0) (tms X1) w m (pso (tms X0) (runS (tms X0) U) 2 (tms X0).length) (pso (tms X1) (runS (tms X1) U) 2 (tms X1).length) = a2
    have l0 : a0 ≤ 3 ^ m := by rw [← e0]; exact cw_le _ _ _ _ _ _
    have l1 : a1 ≤ 3 ^ m := by rw [← e1]; exact cw_le _ _ _ _ _ _
    have ecw : cw (tms X0) (tms X1) w (m + 1) (runS (tms X0) U) (runS (tms X1) U) = a0 + a1 + a2 := by unfold cw; rw [e0, e1, e2]
    have ek : ∀ k t, kth (tms X0) (tms X1) w (m + 1) (runS (tms X0) U) (runS (tms X1) U) k t = if k < a0 then kth (tms X0) (tms X1) w m (runS (tms X0) (U ++ [0])) (runS (tms X1) (U ++ [0])) k (t * 4 + 0 + 1) else if k - a0 < a1 then kth (tms X0) (tms X1) w m (runS (tms X0) (U ++ [1])) (runS (tms X1) (U ++ [1])) (k - a0) (t * 4 + 1 + 1) else kth (tms X0) (tms X1) w m (runS (tms X0) (U ++ [2])) (runS (tms X1) (U ++ [2])) (k - a0 - a1) (t * 4 + 2 + 1) := fun k t => by
      conv => lhs; unfold kth
      rw [e0, e1, runS_app, runS_app, runS_app, runS_app, runS_app, runS_app]
    rw [ecw] at hf hg
    have rep : ∀ (x : Nat), U ++ List.replicate (m + 1) x = U ++ [x] ++ List.replicate m x := fun x => by rw [List.append_assoc]; rfl
    rw [rep] at hL
    -- on to the next letter
    have nxt : ∀ (x c' : Nat) (s2 : sT), x < 2 → rT s2 T X0 X1 → lO s2 (U ++ [x] ++ List.replicate m 2) → (∀ s3, fL' s2 s3 → lO s3 (U ++ [x + 1] ++ List.replicate m 0) → tT (yY L xs) (d + 4) 226 57 [.ref 186, .int (nI w), .int (nI N), .int x3, .int (nI c'), .int 1] [] s3 K) → tT (yY L xs) (d + 4) 226 86 [.ref 186, .int (nI w), .int (nI N), .int x3, .int (nI c'), .int 1] [] s2 K := fun x c' s2 hx hT2 hL2 h => by
      refine b_226_86 ⟨so_186, r_goesOn (V := U) (m := m) hT2.1.1 (by omega) hN hx hL2 (fun s3 f3 hL3 => ?_)⟩
      rw [rt_some]
      exact b_226_91 (h s3 f3 hL3)
    refine ih (U ++ [0]) c s1 (len1 0) (in3 0 (by decide)) (by omega) hT hL (fun k q1 q2 q3 q4 s' f' => ?_) (fun hn1 s2 f2 hL2 => ?_)
    · rw [runS_app, runS_app, e0] at q4
      have := hf k q1 q2 q3 (by omega) s' f'
      rw [ek, if_pos (by omega)] at this
      rw [num_app]; exact this
    · rw [runS_app, runS_app, e0] at hn1 ⊢
      have hT2 := rT_fL' hT f2
      refine nxt 0 (c + a0) s2 (by decide) hT2 hL2 (fun s3 f3 hL3 => ?_)
      have hT3 := rT_fL' hT2 f3
      have g3 := fL'_trans f2 f3
      refine ih (U ++ [1]) (c + a0) s3 (len1 1) (in3 1 (by decide)) (by omega) hT3 hL3 (fun k q1 q2 q3 q4 s' f' => ?_) (fun hn2 s4 f4 hL4 => ?_)
      · rw [runS_app, runS_app, e1] at q4
        have := hf k q1 q2 (by omega) (by omega) s' (fL'_trans g3 f')
        rw [ek, if_neg (by omega), if_pos (by omega)] at this
        rw [num_app, show k - (c + a0) = k - c - a0 by omega]; exact this
      · rw [runS_app, runS_app, e1] at hn2 ⊢
        have hT4 := rT_fL' hT3 f4
        have g4 := fL'_trans g3 f4
        refine nxt 1 (c + a0 + a1) s4 (by decide) hT4 hL4 (fun s5 f5 hL5 => ?_)
        have hT5 := rT_fL' hT4 f5
        have g5 := fL'_trans g4 f5
        refine ih (U ++ [2]) (c + a0 + a1) s5 (len1 2) (in3 2 (by decide)) (by omega) hT5 hL5 (fun k q1 q2 q3 q4 s' f' => ?_) (fun hn3 s6 f6 hL6 => ?_)
        · rw [runS_app, runS_app, e2] at q4
          have := hf k q1 q2 (by omega) (by omega) s' (fL'_trans g5 f')
          rw [ek, if_neg (by omega), if_neg (by omega)] at this
          rw [num_app, show k - (c + a0 + a1) = k - c - a0 - a1 by omega]; exact this
        · rw [runS_app, runS_app, e2] at hn3 ⊢
          have := hg (by
            rintro ⟨k, q1, q2, q3, q4⟩
            by_cases z1 : k < c + a0
            · exact hn1 ⟨k, q1, q2, q3, z1⟩
            · by_cases z2 : k < c + a0 + a1
              · exact hn2 ⟨k, q1, q2, by omega, z2⟩
              · exact hn3 ⟨k, q1, q2, by omega, by omega⟩) s6 (fL'_trans g5 f6) (by rw [rep]; exact hL6)
          rw [show c + (a0 + a1 + a2) = c + a0 + a1 + a2 by omega] at this
          exact this
end LW
