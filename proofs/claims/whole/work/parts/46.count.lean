/-! PAIRS OF CALLS: count -/
/-- line k is a premise of some line -/
def told (N : lnT) (k : Nat) : Prop := ∃ i j, i < N.1.1 ∧ j < N.2.1 i ∧ N.2.2.1 i j = nI k
noncomputable def tld (N : lnT) (k : Nat) : Int32 := @bI (told N k) (Classical.propDecidable _)
theorem tld_0 {N : lnT} {k : Nat} : tld N k = 0 ↔ ¬ told N k := @bI_0 _ (Classical.propDecidable _)
theorem tld_01 (N : lnT) (k : Nat) : tld N k = 0 ∨ tld N k = 1 := @bI_01 _ (Classical.propDecidable _)
noncomputable def cntAns (R : rmT) (w : Int32) : Int32 := if w = 0 then nI R.2.2.2.2.2.1.1 else if w = 1 then nI (cnt R.2.2.2.2.2.1.2.2.2 0 R.2.2.2.2.2.1.1) else if w = 2 then nI (cnt R.2.2.2.2.2.1.2.2.2 1 R.2.2.2.2.2.1.1) else if w = 3 then nI (psum R.2.2.2.2.2.2.1 R.2.2.2.2.2.1.1) else if w = 4 then R.2.2.2.2.2.2.2.2.1 else
  if w = 5 then nI (cnt (tld R.2.2.2.2.2) 0 R.2.2.2.2.2.1.1) else if w = 6 then nI R.1.1 else -1
theorem cnt_congr {f g : Nat → Int32} {b : Int32} : ∀ n, (∀ i, i < n → f i = g i) → cnt f b n = cnt g b n
  | 0, _ => rfl
  | n + 1, h => by
    unfold cnt
    rw [cnt_congr n (fun i hi => h i (by omega)), h n (by omega)]
theorem cnt_eq0 {f : Nat → Int32} {b : Int32} : ∀ n, cnt f b n = 0 ↔ ∀ i, i < n → ¬ f i = b
  | 0 => ⟨fun _ i hi => absurd hi (Nat.not_lt_zero i), fun _ => rfl⟩
  | n + 1 => by
    unfold cnt
    constructor
    · intro h i hi
      by_cases e : i = n
      · subst e
        intro hf
        rw [if_pos hf] at h
        omega
      · exact (cnt_eq0 n).mp (by omega) i (by omega)
    · intro h
      rw [(cnt_eq0 n).mpr (fun i hi => h i (by omega)), if_neg (h n (by omega))]
theorem psum_split {f : Nat → Nat} : ∀ {m p : Nat}, p < psum f m → ∃ i j, i < m ∧ j < f i ∧ p = psum f i + j
  | 0, p, h => absurd h (Nat.not_lt_zero p)
  | m + 1, p, h => by
    by_cases hp : p < psum f m
    · obtain ⟨i, j, h1, h2, h3⟩ := psum_split hp
      exact ⟨i, j, by omega, h2, h3⟩
    · have h : p < psum f m + f m := h
      exact ⟨m, p - psum f m, by omega, by omega, by omega⟩
section H8
variable {GD : sdT → Prop} {L : Nat} {xs : Nat → Int32} {D : Nat}
theorem c_ofRule {Y : sY} {d : Nat} {s : sT} {K : Option Int32 → sT → Prop} {l m : Nat} {b : Int32} (ho : isO Y l 1) (hρ : s.2 l 2 = some (l + 3)) (ha : isA Y (l + 3) 0 300) (hs : s.1 l 8 = nI m) (hm : m ≤ 300) (h : K (some (nI (cnt (s.1 (l + 3)) b m))) s) : tT Y d 18 0 [.ref l, .int b, .null, .null] [] s K := by
  have loop : ∀ q k, q + k = m → tT Y d 18 4 [.ref l, .int b, .int (nI (cnt (s.1 (l + 3)) b k)), .int (nI k)] [] s K := by
    intro q
    induction q with
    | zero =>
      intro k hk
      refine b_18_4 ⟨ho, ?_⟩
      rw [hs, if_pos (by rw [nJ_le (by omega) (by omega)]; omega), show k = m by omega]
      exact h
    | succ q ih =>
      intro k hk
      refine b_18_4 ⟨ho, ?_⟩
      rw [hs, if_neg (by rw [nJ_le (by omega) (by omega)]; omega)]
      refine ⟨l + 3, ⟨ho, hρ⟩, 300, ⟨ha, inR_nI (by omega) (by omega)⟩, ?_⟩
      rw [nI_cl (by omega)]
      have e := ih (k + 1) (by omega)
      unfold cnt at e
      split
      · rename_i hb
        rw [if_neg hb, Nat.add_zero, nI_succ k] at e
        exact b_18_25 e
      · rename_i hb
        rw [if_pos (Classical.byContradiction hb), nI_succ, nI_succ k] at e
        exact b_18_25 e
  exact b_18_0 (loop m 0 (by omega))
theorem c_fill {Y : sY} {d : Nat} {s : sT} {K : Option Int32 → sT → Prop} {a m : Nat} {x : Int32} (ha : isA Y a 0 m) (hm : m < 2147483648) (h : ∀ s' : sT, s'.2 = s.2 → (∀ i, i ≠ a → s'.1 i = s.1 i) → (∀ j, j < m → s'.1 a j = x) → K none s') : tT Y d 231 0 [.ref a, .int x, .null, .null] [] s K := by
  have loop : ∀ q k (s1 : sT), q + k = m → s1.2 = s.2 → (∀ i, i ≠ a → s1.1 i = s.1 i) → (∀ j, j < k → s1.1 a j = x) → tT Y d 231 5 [.ref a, .int x, .int (nI k), .int (nI m)] [] s1 K := by
    intro q
    induction q with
    | zero =>
      intro k s1 hk e2 e1 e3
      refine b_231_5 ?_
      rw [if_pos (by rw [nJ_le hm (by omega)]; omega)]
      exact h s1 e2 e1 (fun j hj => e3 j (by omega))
    | succ q ih =>
      intro k s1 hk e2 e1 e3
      refine b_231_5 ?_
      rw [if_neg (by rw [nJ_le hm (by omega)]; omega)]
      refine ⟨m, ⟨ha, inR_nI (by omega) hm⟩, ?_⟩
      rw [nI_cl (by omega)]
      have := ih (k + 1) (pV s1 a k x) (by omega) e2 (fun i hi => by rw [← e1 i hi]; funext j; rw [pV_1, if_neg (fun z => hi z.1)]) (fun j hj => ?_)
      · rw [nI_succ] at this; exact this
      · rw [pV_1]
        by_cases e : j = k
        · rw [if_pos ⟨rfl, e⟩]
        · rw [if_neg (fun z => e z.2)]; exact e3 j (by omega)
  exact b_231_0 ⟨0, m, ha, loop m 0 s (by omega) rfl (fun _ _ => rfl) (fun j hj => absurd hj (Nat.not_lt_zero j))⟩
theorem c_none {d : Nat} {s : sT} {K : Option Int32 → sT → Prop} {N : lnT} (hP : rP s.2) (hN : lnC s.1 84 N) (hB : lnB N) (h : ∀ s' : sT, s'.2 = s.2 → (∀ i, i ≠ 93 → s'.1 i = s.1 i) → K (some (nI (cnt (tld N) 0 N.1.1))) s') : tT (yY L xs) (d + 1) 19 0 [.ref 84, .null, .null] [] s K := by
  obtain ⟨⟨l1, l2, l3⟩, l4, l5, l6, l7, l8, l9, l10, l11⟩ := hN
  obtain ⟨b1, b2, b3⟩ := hB
  have htot := psum_le (f := N.2.1) N.1.1 b2
  have r7 := rp_84_7 hP
  have r5 := rp_84_5 hP
  -- the last loop: how many are used by none
  have last : ∀ q k (s1 : sT), q + k = N.1.1 → s1.2 = s.2 → (∀ i, i ≠ 93 → s1.1 i = s.1 i) → (∀ j, j < N.1.1 → (s1.1 93 j = 0 ↔ ¬ told N j)) → tT (yY L xs) (d + 1) 19 56 [.ref 84, .int (nI (cnt (tld N) 0 k)), .int (nI k)] [] s1 K := by
    intro q
    induction q with
    | zero =>
      intro k s1 hk e2 e1 e3
      refine b_19_56 ⟨so_84, ?_⟩
      rw [e1 84 (by omega), l1, if_pos (by rw [nJ_le (by omega) (by omega)]; omega), show k = N.1.1 by omega]
      exact h s1 e2 e1
    | succ q ih =>
      intro k s1 hk e2 e1 e3
      refine b_19_56 ⟨so_84, ?_⟩
      rw [e1 84 (by omega), l1, if_neg (by rw [nJ_le (by omega) (by omega)]; omega)]
      refine ⟨93, ⟨so_84, by rw [e2]; exact r7⟩, 300, ⟨sa_93, inR_nI (by omega) (by omega)⟩, ?_⟩
      rw [nI_cl (by omega)]
      have e := ih (k + 1) s1 (by omega) e2 e1 e3
      have h3 := e3 k (by omega)
      unfold cnt at e
      split
      · rename_i hb
        rw [if_neg (fun z => hb (h3.mpr (tld_0.mp z))), Nat.add_zero, nI_succ k] at e
        exact b_19_76 e
      · rename_i hb
        rw [if_pos (tld_0.mpr (h3.mp (Classical.byContradiction hb))), nI_succ, nI_succ k] at e
        exact b_19_76 e
  -- the first: uses are counted
  have first : ∀ q p (s1 : sT), q + p = psum N.2.1 N.1.1 → s1.2 = s.2 → (∀ i, i ≠ 93 → s1.1 i = s.1 i) → (∀ j, j < N.1.1 → s1.1 93 j = nI (cnt (s.1 90) (nI j) p)) → tT (yY L xs) (d + 1) 19 10 [.ref 84, .int (nI p), .null] [] s1 K := by
    intro q
    induction q with
    | zero =>
      intro p s1 hp e2 e1 e3
      refine b_19_10 ⟨so_84, ?_⟩
      rw [e1 84 (by omega), l2, if_pos (by rw [nJ_le (by omega) (by omega)]; omega)]
      refine last N.1.1 0 s1 (by omega) e2 e1 (fun j hj => ?_)
      have hle := cnt_le (s.1 90) (nI j) p
      rw [e3 j hj, nI_lit 0, nJ_eq (by omega) (by omega), cnt_eq0, show p = psum N.2.1 N.1.1 by omega]
      constructor
      · rintro h0 ⟨i, j', hi, hj', e⟩
        have := psum_in (f := N.2.1) hi
        exact h0 (psum N.2.1 i + j') (by omega) ((l9 i hi j' hj').trans e)
      · intro hn z hz e
        obtain ⟨i, j', hi, hj', rfl⟩ := psum_split hz
        exact hn ⟨i, j', hi, hj', (l9 i hi j' hj').symm.trans e⟩
    | succ q ih =>
      intro p s1 hp e2 e1 e3
      refine b_19_10 ⟨so_84, ?_⟩
      rw [e1 84 (by omega), l2, if_neg (by rw [nJ_le (by omega) (by omega)]; omega)]
      refine ⟨90, ⟨so_84, by rw [e2]; exact r5⟩, 9300, ⟨sa_90, inR_nI (by omega) (by omega)⟩, so_84, ?_⟩
      rw [nI_cl (by omega), e1 90 (by omega)]
      refine c_isLine so_84 (by rw [e1 84 (by omega)]; exact l1) (by omega) (fun k hk hkm => ?_) (fun hout => ?_) <;> rw [rt_some]
      · refine b_19_28 ?_
        rw [if_neg (by decide)]
        refine ⟨93, ⟨so_84, by rw [e2]; exact r7⟩, 90, ⟨so_84, by rw [e2]; exact r5⟩, 9300, ⟨sa_90, inR_nI (by omega) (by omega)⟩, ?_⟩
        rw [nI_cl (by omega), e1 90 (by omega), hk, nI_cl (by omega)]
        refine ⟨300, ⟨sa_93, inR_nI (by omega) (by omega)⟩, 300, ⟨sa_93, inR_nI (by omega) (by omega)⟩, b_19_46 ?_⟩
        have := ih (p + 1) (pV s1 93 k (s1.1 93 k + 1)) (by omega) e2 (fun i hi => by rw [← e1 i hi]; funext j; rw [pV_1, if_neg (by omega)]) (fun j hj => ?_)
        · rw [nI_succ] at this; exact this
        · rw [pV_1]
          unfold cnt
          by_cases e : j = k
          · subst e
            rw [if_pos ⟨rfl, rfl⟩, if_pos hk, nI_succ, e3 j hj]
          · rw [if_neg (fun z => e z.2), if_neg (fun z => e ((nJ_eq (by omega) (by omega)).mp (z.symm.trans hk))), Nat.add_zero]; exact e3 j hj
      · refine b_19_28 ?_
        rw [if_pos rfl]
        refine b_19_46 ?_
        have := ih (p + 1) s1 (by omega) e2 e1 (fun j hj => ?_)
        · rw [nI_succ] at this; exact this
        · unfold cnt
          rw [if_neg, Nat.add_zero]; exact e3 j hj
          intro z
          rw [z] at hout
          rcases hout with h | h
          · exact nI_nn (by omega) h
          · rw [nJ_le (by omega) (by omega)] at h; omega
  refine b_19_0 ⟨93, ⟨so_84, r7⟩, c_fill sa_93 (by decide) (fun s1 e2 e1 e3 => ?_)⟩
  rw [rt_none]
  refine b_19_8 (first (psum N.2.1 N.1.1) 0 s1 (by omega) e2 e1 (fun j hj => ?_))
  rw [e3 j (by omega)]; rfl
theorem c_count {s : sT} {R : rmT} {I : Nat → Option rmT} (hC : simC s R I) (hB : rmB GD R) (w : Int32) : doC (yY L xs) (D + 2) 128 [.ref 0, .int w, .null] s R I (some (cntAns R w)) R I := by
  intro K k
  have hC0 := hC
  have kk := k s hC (fun i _ => ⟨rfl, rfl⟩)
  obtain ⟨c0, c1, hc, hr⟩ := hC.2.1
  have hl := hr.2.2.2.2.2
  obtain ⟨⟨l1, l2, l3⟩, l4, l5, l6, l7, l8, l9, l10, l11⟩ := hr.2.2.2.2.2
  have hBl := hB.2.2.2.2
  obtain ⟨b1, b2, b3⟩ := hB.2.2.2.2
  have hP := hC.1
  unfold cntAns at kk k
  refine b_128_0 ⟨61, ⟨so_0, rp_0_8 hP⟩, 84, ⟨so_61, rp_61_3 hP⟩, fun e => ?_, fun e => ?_, fun e => ?_, fun e => ?_, fun e => ?_, fun e => ?_, fun e => ?_, fun e => ?_⟩
  · rw [if_pos e] at kk
    exact ⟨so_84, by rw [l1]; exact kk⟩
  · rw [if_neg (by rw [e]; decide), if_pos e] at kk
    refine ⟨so_84, c_ofRule so_84 (rp_84_2 hP) sa_87 l1 b1 ?_⟩
    rw [rt_some, cnt_congr _ l6]
    exact b_128_62 kk
  · rw [if_neg (by rw [e]; decide), if_neg (by rw [e]; decide), if_pos e] at kk
    refine ⟨so_84, c_ofRule so_84 (rp_84_2 hP) sa_87 l1 b1 ?_⟩
    rw [rt_some, cnt_congr _ l6]
    exact b_128_68 kk
  · rw [if_neg (by rw [e]; decide), if_neg (by rw [e]; decide), if_neg (by rw [e]; decide), if_pos e] at kk
    exact ⟨so_84, by rw [l2]; exact kk⟩
  · rw [if_neg (by rw [e]; decide), if_neg (by rw [e]; decide), if_neg (by rw [e]; decide), if_neg (by rw [e]; decide), if_pos e] at kk
    exact ⟨so_84, by rw [l3]; exact kk⟩
  · rw [if_neg (by rw [e]; decide), if_neg (by rw [e]; decide), if_neg (by rw [e]; decide), if_neg (by rw [e]; decide), if_neg (by rw [e]; decide), if_pos e] at k
    refine ⟨so_84, c_none (d := D) hP hl hBl (fun s' e2 e1 => ?_)⟩
    rw [rt_some]
    refine b_128_83 (k s' (simC_lines hC0 e2 (fun i _ hi => e1 i (by omega)) (lnC_off hl (fun i _ _ => e1 i (by omega)))) (fun i hi => ⟨e1 i (by omega), by rw [e2]⟩))
  · rw [if_neg (by rw [e]; decide), if_neg (by rw [e]; decide), if_neg (by rw [e]; decide), if_neg (by rw [e]; decide), if_neg (by rw [e]; decide), if_neg (by rw [e]; decide), if_pos e] at kk
    refine ⟨61, ⟨so_0, rp_0_8 hP⟩, 62, ⟨so_61, rp_61_0 hP⟩, so_62, ?_⟩
    rw [show s.1 62 1 = nI R.1.1 from hr.1.1]; exact kk
  · rw [if_neg e.1, if_neg e.2.1, if_neg e.2.2.1, if_neg e.2.2.2.1, if_neg e.2.2.2.2.1, if_neg e.2.2.2.2.2.1, if_neg e.2.2.2.2.2.2] at kk
    exact kk
end H8
