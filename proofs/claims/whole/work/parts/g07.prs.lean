/-! WORDS, WORD: the pairs -/
section WP
variable {L : Nat} {xs : Nat → Int32} {d : Nat} {s : sT} {K : Option Int32 → sT → Prop} {R : rmT} {I : Nat → Option rmT} {X0 X1 : Cond} {w n : Nat}
theorem pr_words (a b : Int32) : pairOK (yY L xs) (Sim gD) (d + 20) 124 227 [.ref 0, .int a, .int b] [.ref 186, .int a, .int b] true := by
  refine pair_of fun s R I hC hR hB hI => ?_
  by_cases h : (∃ w, w < 6 ∧ a = nI w) ∧ ∃ n, n < 9 ∧ b = nI n
  · obtain ⟨⟨w, hw, rfl⟩, n, hn, rfl⟩ := h
    obtain ⟨X0, X1, h0, h1⟩ := both_X hB
    refine ⟨_, R, I, rfl, hB, hI, c_words (d := d) hw (by omega) hC h0 h1, fun s1 hR1 K kk => ?_⟩
    refine b_227_0 ⟨so_186, tt_mono (r_listed (d := d) hw (by omega) (-1) hR1 hI h0 h1 (fun k q1 q2 => absurd q1.symm (nn1 q2)) (fun _ s' z1 z2 => ?_)) (by omega) (fun _ _ q => q)⟩
    rw [rt_some, if_pos rfl]
    exact b_227_7 (kk s' z1 z2)
  · refine ⟨some (-1), R, I, rfl, hB, hI, fun K kk => ?_, fun s1 hR1 K kk => ?_⟩
    · refine b_124_0 (c_canCount (fun q => absurd q h) (fun _ => ?_))
      rw [rt_some]
      refine b_124_5 ?_
      rw [if_neg (fun q => q rfl)]
      exact kk s hC (fun _ _ => ⟨rfl, rfl⟩)
    · refine b_227_0 ⟨so_186, r_listed_no (d := d + 18) hR1 h ?_⟩
      rw [rt_some]
      exact b_227_7 (kk s1 hR1 (fun _ _ => ⟨rfl, rfl⟩))
theorem pr_word (a b x : Int32) : pairOK (yY L xs) (Sim gD) (d + 21) 125 228 [.ref 0, .int a, .int b, .int x] [.ref 186, .int a, .int b, .int x] true := by
  refine pair_of fun s R I hC hR hB hI => ?_
  by_cases h : (∃ w, w < 6 ∧ a = nI w) ∧ ∃ n, n < 9 ∧ b = nI n
  · obtain ⟨⟨w, hw, rfl⟩, n, hn, rfl⟩ := h
    obtain ⟨X0, X1, h0, h1⟩ := both_X hB
    refine ⟨_, R, I, rfl, hB, hI, c_word (d := d) hw (by omega) x hC h0 h1, fun s1 hR1 K kk => ?_⟩
    unfold wrA at kk
    refine b_228_0 ?_
    by_cases hx : x < 0
    · rw [if_neg (Int32.not_le.mpr hx)]
      rw [if_pos hx] at kk
      exact b_228_15 (kk s1 hR1 (fun _ _ => ⟨rfl, rfl⟩))
    rw [if_pos (Int32.not_lt.mp hx)]
    rw [if_neg hx] at kk
    obtain ⟨k, hk, rfl⟩ := i32_ex hx
    rw [nI_cl hk] at kk
    refine ⟨so_186, tt_mono (r_listed (d := d) hw (by omega) (nI k) hR1 hI h0 h1 (fun k' q1 q2 q3 s' z1 z2 => ?_) (fun hnf s' z1 z2 => ?_)) (by omega) (fun _ _ q => q)⟩
    · rw [rt_some]
      have : k = k' := (nJ_eq hk q2).mp q1
      subst this
      rw [if_pos q3] at kk
      exact b_228_15 (kk s' z1 z2)
    · rw [rt_some, if_neg (nn1 hk)]
      rw [if_neg (fun q => hnf ⟨k, rfl, hk, Nat.zero_le _, by omega⟩)] at kk
      exact b_228_15 (kk s' z1 z2)
  · refine ⟨some (-1), R, I, rfl, hB, hI, fun K kk => ?_, fun s1 hR1 K kk => ?_⟩
    · refine b_125_0 (c_canCount (fun q => absurd q h) (fun _ => ?_))
      rw [rt_some]
      refine b_125_5 ?_
      rw [if_pos rfl]
      exact kk s hC (fun _ _ => ⟨rfl, rfl⟩)
    · have k := kk s1 hR1 (fun _ _ => ⟨rfl, rfl⟩)
      refine b_228_0 ?_
      split
      · refine ⟨so_186, r_listed_no (d := d + 19) hR1 h ?_⟩
        rw [rt_some]
        exact b_228_15 k
      · exact b_228_15 k
end WP
