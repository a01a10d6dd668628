/-! WORDS: how many of n letters; by the class -/
def ftB (w : Nat) (a b : Bool) : Bool := if w = 0 then a else if w = 1 then b else if w = 2 then a && b else if w = 3 then a && !b else if w = 4 then b && !a else !a && !b
def cw (F0 F1 : List Cond) (w : Nat) : Nat → Int32 → Int32 → Nat
  | 0, A, B => if ftB w (anyF F0 A) (anyF F1 B) = true then 1 else 0
  | n + 1, A, B => cw F0 F1 w n (pso F0 A 0 F0.length) (pso F1 B 0 F1.length) + cw F0 F1 w n (pso F0 A 1 F0.length) (pso F1 B 1 F1.length) + cw F0 F1 w n (pso F0 A 2 F0.length) (pso F1 B 2 F1.length)
theorem cw_le (F0 F1 : List Cond) (w : Nat) : ∀ n A B, cw F0 F1 w n A B ≤ 3 ^ n
  | 0, A, B => by
    unfold cw
    split
    · exact Nat.le_refl _
    · exact Nat.zero_le _
  | n + 1, A, B => by
    unfold cw
    have h0 := cw_le F0 F1 w n (pso F0 A 0 F0.length) (pso F1 B 0 F1.length)
    have h1 := cw_le F0 F1 w n (pso F0 A 1 F0.length) (pso F1 B 1 F1.length)
    have h2 := cw_le F0 F1 w n (pso F0 A 2 F0.length) (pso F1 B 2 F1.length)
    rw [Nat.pow_succ]
    omega
theorem anyF_0 (F : List Cond) : anyF F 0 = false := decide_eq_false (fun q => q (Int32.zero_and))
theorem cw_00 (F0 F1 : List Cond) {w : Nat} (hw : w < 6) : ∀ n, cw F0 F1 w n 0 0 = if w = 5 then 3 ^ n else 0
  | 0 => by
    unfold cw
    rw [anyF_0, anyF_0]
    rcases (show w = 0 ∨ w = 1 ∨ w = 2 ∨ w = 3 ∨ w = 4 ∨ w = 5 by omega) with rfl | rfl | rfl | rfl | rfl | rfl <;> rfl
  | n + 1 => by
    unfold cw
    rw [pso_0, pso_0, pso_0, pso_0, pso_0, pso_0, cw_00 F0 F1 hw n]
    by_cases e : w = 5
    · rw [if_pos e, if_pos e, Nat.pow_succ]; omega
    · rw [if_neg e, if_neg e]
theorem cw_w1 (F0 F1 : List Cond) : ∀ n A A' B, cw F0 F1 1 n A B = cw F0 F1 1 n A' B
  | 0, A, A', B => rfl
  | n + 1, A, A', B => by
    unfold cw
    rw [cw_w1 F0 F1 n (pso F0 A 0 F0.length) (pso F0 A' 0 F0.length), cw_w1 F0 F1 n (pso F0 A 1 F0.length) (pso F0 A' 1 F0.length), cw_w1 F0 F1 n (pso F0 A 2 F0.length) (pso F0 A' 2 F0.length)]
theorem cw_w0 (F0 F1 : List Cond) : ∀ n A B B', cw F0 F1 0 n A B = cw F0 F1 0 n A B'
  | 0, A, B, B' => rfl
  | n + 1, A, B, B' => by
    unfold cw
    rw [cw_w0 F0 F1 n _ (pso F1 B 0 F1.length) (pso F1 B' 0 F1.length), cw_w0 F0 F1 n _ (pso F1 B 1 F1.length) (pso F1 B' 1 F1.length), cw_w0 F0 F1 n _ (pso F1 B 2 F1.length) (pso F1 B' 2 F1.length)]
theorem p38 : ∀ n, n ≤ 8 → 3 ^ n ≤ 6561 := by decide
theorem bt_511 : ∀ t, t < 32 → 9 ≤ t → bt 511 t = false := by decide +kernel
theorem and_511 (v : Int32) : ∃ i, i < 512 ∧ v &&& 511 = nI i := by
  refine ⟨(v &&& 511).toBitVec.toNat, ?_, ?_⟩
  · refine Nat.lt_pow_two_of_testBit (n := 9) _ (fun t ht => ?_)
    show (v &&& 511).toBitVec.getLsbD t = false
    by_cases h : t < 32
    · have := bt_and v 511 t
      rw [bt_511 t h ht, Bool.and_false] at this
      exact this
    · exact BitVec.getLsbD_of_ge _ _ (by omega)
  · apply Int32.toBitVec_inj.mp
    show (v &&& 511).toBitVec = BitVec.ofNat 32 (v &&& 511).toBitVec.toNat
    rw [BitVec.ofNat_toNat, BitVec.setWidth_eq]
/-- the counter's cells -/
def wQ (L : Nat) (xs : Nat → Int32) (s : sT) (c0 c1 : Nat) (X0 X1 : Cond) (w : Nat) : Prop := rP s.2 ∧ (s.2 56 4 = some c0 ∧ s.2 56 5 = some c1) ∧ (sdX L xs s c0 X0 ∧ (c0 = 65 ∨ c0 = 74)) ∧ (sdX L xs s c1 X1 ∧ (c1 = 65 ∨ c1 = 74)) ∧ s.1 56 6 = nI w ∧ ∀ i r, i < 512 → 1 ≤ r → r ≤ 8 → s.1 59 i = nI r → s.1 60 i = nI (cw (tms X0) (tms X1) w r (s.1 57 i) (s.1 58 i))
def fY (s s' : sT) : Prop := s'.2 = s.2 ∧ ∀ z, ¬ (57 ≤ z ∧ z ≤ 60) → s'.1 z = s.1 z
theorem fY_refl (s : sT) : fY s s := ⟨rfl, fun _ _ => rfl⟩
theorem fY_trans {s s1 s2 : sT} (h1 : fY s s1) (h2 : fY s1 s2) : fY s s2 := ⟨h2.1.trans h1.1, fun z a => (h2.2 z a).trans (h1.2 z a)⟩
section WO
variable {L : Nat} {xs : Nat → Int32} {d : Nat} {s : sT} {K : Option Int32 → sT → Prop} {X0 X1 : Cond} {c0 c1 w : Nat}
theorem c_allWords : ∀ n, n ≤ 8 → K (some (nI (3 ^ n))) s → tT (yY L xs) d 111 0 [.int (nI n), .null, .null] [] s K := fun n hn hK => by
  have loop : ∀ q k, q + k = n → tT (yY L xs) d 111 4 [.int (nI n), .int (nI (3 ^ k)), .int (nI k)] [] s K := by
    intro q
    induction q with
    | zero =>
      intro k hk
      refine b_111_4 ?_
      rw [if_pos (by rw [nJ_le (by omega) (by omega)]; omega), show k = n by omega]
      exact hK
    | succ q ih =>
      intro k hk
      refine b_111_4 ?_
      have := ih (k + 1) (by omega)
      rw [if_neg (by rw [nJ_le (by omega) (by omega)]; omega), nI_lit 3, nJ_mul, ← Nat.pow_succ, ← nI_succ k]
      exact this
  exact b_111_0 (loop n 0 (by omega))
theorem c_fits {a b : Bool} (h6 : s.1 56 6 = nI w) (hw : w < 6) (hK : K (some (bz (ftB w a b))) s) : tT (yY L xs) d 110 0 [.ref 56, .int (bz a), .int (bz b)] [] s K := by
  have b1 : ∀ c : Bool, bz c = 0 ∨ bz c = 1 := bz_01
  refine b_110_0 ⟨so_56, ?_⟩
  rw [h6]
  rcases (show w = 0 ∨ w = 1 ∨ w = 2 ∨ w = 3 ∨ w = 4 ∨ w = 5 by omega) with rfl | rfl | rfl | rfl | rfl | rfl
  · exact ⟨fun _ => ⟨b1 a, hK⟩, fun q => absurd q (by decide), fun q => absurd q (by decide), fun q => absurd q (by decide), fun q => absurd q (by decide), fun q => absurd (show nI 0 = 0 from rfl) q.1⟩
  · exact ⟨fun q => absurd q (by decide), fun _ => ⟨b1 b, hK⟩, fun q => absurd q (by decide), fun q => absurd q (by decide), fun q => absurd q (by decide), fun q => absurd (show nI 1 = 1 from rfl) q.2.1⟩
  · refine ⟨fun q => absurd q (by decide), fun q => absurd q (by decide), fun _ => ?_, fun q => absurd q (by decide), fun q => absurd q (by decide), fun q => absurd (show nI 2 = 2 from rfl) q.2.2.1⟩
    cases a <;> cases b <;> exact hK
  · refine ⟨fun q => absurd q (by decide), fun q => absurd q (by decide), fun q => absurd q (by decide), fun _ => ?_, fun q => absurd q (by decide), fun q => absurd (show nI 3 = 3 from rfl) q.2.2.2.1⟩
    cases a <;> cases b <;> exact hK
  · refine ⟨fun q => absurd q (by decide), fun q => absurd q (by decide), fun q => absurd q (by decide), fun q => absurd q (by decide), fun _ => ?_, fun q => absurd (show nI 4 = 4 from rfl) q.2.2.2.2⟩
    cases a <;> cases b <;> exact hK
  · refine ⟨fun q => absurd q (by decide), fun q => absurd q (by decide), fun q => absurd q (by decide), fun q => absurd q (by decide), fun q => absurd q (by decide), fun _ => ?_⟩
    cases a <;> cases b <;> exact hK
/-- the sum over the first letters -/
def cwM (F0 F1 : List Cond) (w n : Nat) (A B : Int32) : Nat → Nat
  | 0 => 0
  | x + 1 => cwM F0 F1 w n A B x + cw F0 F1 w n (pso F0 A x F0.length) (pso F1 B x F1.length)
theorem cw_S (F0 F1 : List Cond) (w n : Nat) (A B : Int32) : cw F0 F1 w (n + 1) A B = cwM F0 F1 w n A B 3 := by
  show _ = 0 + cw F0 F1 w n (pso F0 A 0 F0.length) (pso F1 B 0 F1.length) + cw F0 F1 w n (pso F0 A 1 F0.length) (pso F1 B 1 F1.length) + cw F0 F1 w n (pso F0 A 2 F0.length) (pso F1 B 2 F1.length)
  rw [Nat.zero_add]; rfl
theorem c_countFrom (hw : w < 6) : ∀ n, n ≤ 8 → ∀ (d : Nat) (A B : Int32) (s : sT) (K : Option Int32 → sT → Prop), wQ L xs s c0 c1 X0 X1 w → (∀ s', fY s s' → wQ L xs s' c0 c1 X0 X1 w → K (some (nI (cw (tms X0) (tms X1) w n A B))) s') → tT (yY L xs) (d + 2 * n + 2) 109 0 [.ref 56, .int A, .int B, .int (nI n), .null, .null, .null] [] s K := by
  intro n
  induction n with
  | zero =>
    intro _ d A B s K hQ hK
    obtain ⟨hP, ⟨r4, r5⟩, ⟨x0, -⟩, ⟨x1, -⟩, h6, -⟩ := id hQ
    have k := hK s (fY_refl s) hQ
    refine b_109_0 ?_
    rw [if_neg (by decide)]
    refine ⟨c0, ⟨so_56, r4⟩, x0.1.1, c_anyFull x0 ?_⟩
    rw [rt_some]
    refine b_109_13 ⟨c1, ⟨so_56, r5⟩, x1.1.1, c_anyFull x1 ?_⟩
    rw [rt_some]
    refine b_109_21 ⟨so_56, c_fits h6 hw ?_⟩
    rw [rt_some]
    refine b_109_24 ?_
    unfold cw at k
    cases hf : ftB w (anyF (tms X0) A) (anyF (tms X1) B) with
    | false => rw [hf, if_neg (by decide)] at k; exact k
    | true => rw [hf, if_pos rfl] at k; exact k
  | succ n ih =>
    intro hn d A B s K hQ hK
    obtain ⟨hP, ⟨r4, r5⟩, ⟨x0, hc0⟩, ⟨x1, hc1⟩, h6, hmem⟩ := id hQ
    have hp := p38 n (by omega)
    have hp1 := p38 (n + 1) hn
    have behind : ∀ (x : Nat) (s1 : sT) (K1 : Option Int32 → sT → Prop), x < 3 → wQ L xs s1 c0 c1 X0 X1 w → (∀ s', fY s1 s' → wQ L xs s' c0 c1 X0 X1 w → K1 (some (nI (cw (tms X0) (tms X1) w n (pso (tms X0) A x (tms X0).length) (pso (tms X1) B x (tms X1).length)))) s') → tT (yY L xs) (d + 2 * n + 3) 108 0 [.ref 56, .int A, .int B, .int (nI x), .int (nI n)] [] s1 K1 := fun x s1 K1 hx hQ1 hK1 => by
      obtain ⟨hP, ⟨r4, r5⟩, ⟨x0, -⟩, ⟨x1, -⟩, -, -⟩ := id hQ1
      refine b_108_0 ⟨c0, ⟨so_56, r4⟩, x0.1.1, c_partsOfSet x0 hx ?_⟩
      rw [rt_some]
      refine b_108_10 ⟨c1, ⟨so_56, r5⟩, x1.1.1, c_partsOfSet x1 hx ?_⟩
      rw [rt_some]
      refine b_108_19 ⟨so_56, ih (by omega) d _ _ s1 _ hQ1 (fun s' f q => ?_)⟩
      rw [rt_some]
      exact b_108_24 (hK1 s' f q)
    have long : tT (yY L xs) (d + 2 * (n + 1) + 2) 109 58 [.ref 56, .int A, .int B, .int (nI (n + 1)), .null, .null, .null] [] s K := by
      refine b_109_58 (b_112_0 ?_)
      rw [rt_some]
      generalize ((A * -1640531535 + B * -2048144789 + nI (n + 1) * 668265263) ^^^ ((A * -1640531535 + B * -2048144789 + nI (n + 1) * 668265263).toUInt32 >>> (Int32.toUInt32 15 &&& Int32.toUInt32 31)).toInt32) = mx
      obtain ⟨i, hi, ei⟩ := and_511 mx
      rw [ei]
      have hin : inR (nI i) 512 := inR_nI hi (by decide)
      have loop : ∀ q x (s1 : sT), q + x = 3 → fY s s1 → wQ L xs s1 c0 c1 X0 X1 w → tT (yY L xs) (d + 2 * (n + 1) + 2) 109 113 [.ref 56, .int A, .int B, .int (nI (n + 1)), .int (nI i), .int (nI (cwM (tms X0) (tms X1) w n A B x)), .int (nI x)] [] s1 K := by
        intro q
        induction q with
        | zero =>
          intro x s1 hx f1 hQ1
          obtain ⟨hP1, hr1, ⟨y0, hd0⟩, ⟨y1, hd1⟩, h61, hm1⟩ := hQ1
          refine b_109_113 ?_
          rw [if_pos (by rw [nI_lit 3, nJ_le (by omega) (by omega)]; omega)]
          refine ⟨57, ⟨so_56, rp_56_0 hP1⟩, 512, ⟨sa_57, hin⟩, 58, ⟨so_56, rp_56_1 hP1⟩, 512, ⟨sa_58, hin⟩, 59, ⟨so_56, rp_56_2 hP1⟩, 512, ⟨sa_59, hin⟩, 60, ⟨so_56, rp_56_3 hP1⟩, 512, ⟨sa_60, hin⟩, ?_⟩
          rw [nI_cl (show i < 2147483648 by omega), show x = 3 by omega, ← cw_S]
          have ho : ∀ z, ¬ (57 ≤ z ∧ z ≤ 60) → (pV (pV (pV (pV s1 57 i A) 58 i B) 59 i (nI (n + 1))) 60 i (nI (cw (tms X0) (tms X1) w (n + 1) A B))).1 z = s1.1 z := fun z hz => funext fun j => by rw [pV_1, if_neg (by omega), pV_1, if_neg (by omega), pV_1, if_neg (by omega), pV_1, if_neg (by omega)]
          refine hK _ (fY_trans f1 ⟨rfl, ho⟩) ⟨hP1, hr1, ⟨⟨y0.1, sdC_off y0.2.1 (fun z a b => ho z (by omega)), y0.2.2⟩, hd0⟩, ⟨⟨y1.1, sdC_off y1.2.1 (fun z a b => ho z (by omega)), y1.2.2⟩, hd1⟩, by rw [ho 56 (by decide)]; exact h61, fun i' r hi' hr1 hr8 e59 => ?_⟩
          by_cases e : i' = i
          · subst e
            have e59' : (pV (pV (pV (pV s1 57 i' A) 58 i' B) 59 i' (nI (n + 1))) 60 i' (nI (cw (tms X0) (tms X1) w (n + 1) A B))).1 59 i' = nI (n + 1) := by rw [pV_1, if_neg (by omega), pV_1, if_pos ⟨rfl, rfl⟩]
            rw [e59'] at e59
            have hr : n + 1 = r := (nJ_eq (by omega) (by omega)).mp e59
            subst hr
            rw [pV_1, if_pos ⟨rfl, rfl⟩, pV_1, if_neg (by omega), pV_1, if_neg (by omega), pV_1, if_neg (by omega), pV_1, if_pos ⟨rfl, rfl⟩, pV_1, if_neg (by omega), pV_1, if_neg (by omega), pV_1, if_pos ⟨rfl, rfl⟩]
          · rw [pV_1, if_neg (by omega), pV_1, if_neg (by omega), pV_1, if_neg (by omega), pV_1, if_neg (by omega)] at e59 ⊢
            rw [pV_1, if_neg (by omega), pV_1, if_neg (by omega), pV_1, if_neg (by omega), pV_1, if_neg (by omega), pV_1, if_neg (by omega), pV_1, if_neg (by omega), pV_1, if_neg (by omega), pV_1, if_neg (by omega)]
            exact hm1 i' r hi' hr1 hr8 e59
        | succ q ihq =>
          intro x s1 hx f1 hQ1
          refine b_109_113 ?_
          rw [if_neg (by rw [nI_lit 3, nJ_le (by omega) (by omega)]; omega), nI_sub1]
          refine ⟨so_56, behind x s1 _ (by omega) hQ1 (fun s2 f2 hQ2 => ?_)⟩
          rw [rt_some]
          refine b_109_132 ?_
          rw [nJ_add, ← nI_succ x]
          exact ihq (x + 1) s2 (by omega) (fY_trans f1 f2) hQ2
      have miss : tT (yY L xs) (d + 2 * (n + 1) + 2) 109 107 [.ref 56, .int A, .int B, .int (nI (n + 1)), .int (nI i), .null, .null] [] s K := b_109_107 (loop 3 0 s rfl (fY_refl s) hQ)
      refine b_109_64 ⟨59, ⟨so_56, rp_56_2 hP⟩, 512, ⟨sa_59, hin⟩, ?_⟩
      rw [nI_cl (show i < 2147483648 by omega)]
      by_cases e59 : s.1 59 i = nI (n + 1)
      case neg => rw [if_pos e59]; exact miss
      rw [if_neg (fun q => q e59)]
      refine ⟨57, ⟨so_56, rp_56_0 hP⟩, 512, ⟨sa_57, hin⟩, ?_⟩
      by_cases e57 : s.1 57 i = A
      case neg => rw [if_pos e57]; exact miss
      rw [if_neg (fun q => q e57)]
      refine ⟨58, ⟨so_56, rp_56_1 hP⟩, 512, ⟨sa_58, hin⟩, ?_⟩
      by_cases e58 : s.1 58 i = B
      case neg => rw [if_pos e58]; exact miss
      rw [if_neg (fun q => q e58)]
      refine ⟨60, ⟨so_56, rp_56_3 hP⟩, 512, ⟨sa_60, hin⟩, ?_⟩
      rw [hmem i (n + 1) hi (by omega) hn e59, e57, e58]
      exact hK s (fY_refl s) hQ
    refine b_109_0 ?_
    rw [if_pos (by rw [nI_lit 0, nJ_lt (by omega) (by omega)]; omega)]
    by_cases hA : A = 0
    case neg => rw [if_pos hA]; exact long
    rw [if_neg (fun q => q hA)]
    by_cases hB : B = 0
    case neg => rw [if_pos hB]; exact long
    rw [if_neg (fun q => q hB), h6]
    have k := hK s (fY_refl s) hQ
    rw [hA, hB, cw_00 _ _ hw] at k
    refine ⟨so_56, ?_⟩
    by_cases h5 : w = 5
    · rw [if_neg (fun q => q (by rw [h5]; rfl))]
      rw [if_pos h5] at k
      refine c_allWords (n + 1) hn ?_
      rw [rt_some]
      exact b_109_53 k
    · rw [if_pos (by rw [nI_lit 5, nJ_eq (by omega) (by omega)]; exact h5)]
      rw [if_neg h5] at k
      exact k
end WO
