/-! A ROOM becomes another -/
def rmK (Y : sY) (ρ : Nat → Nat → Option Nat) (w c0 c1 : Nat) : Prop := isO Y w 3 ∧ (ρ w 0 = some (w + 1) ∧ ρ w 1 = some (w + 3) ∧ ρ w 2 = some (w + 22) ∧ ρ w 3 = some (w + 23)) ∧ tX Y ρ (w + 1) 60 ∧ (isQ Y (w + 3) 5 2 ∧ ρ (w + 3) 0 = some c0 ∧ ρ (w + 3) 1 = some c1) ∧ (isQ Y (w + 22) 7 4 ∧ ∀ k, k < 4 → ρ (w + 22) k = some (w + 33 + 2 * k) ∧ tX Y ρ (w + 33 + 2 * k) 30) ∧ sdK Y ρ c0 ∧ sdK Y ρ c1 ∧ lnK Y ρ (w + 23) ∧ ((c0 = w + 4 ∧ c1 = w + 13) ∨ (c0 = w + 13 ∧ c1 = w + 4))
def rmN (R : rmT) : Prop := R.1.1 ≤ 60 ∧ sdB R.2.2.1 ∧ sdB R.2.2.2.1 ∧ (∀ k, k < 4 → (R.2.2.2.2.1 k).1.1 ≤ 30) ∧ lnB R.2.2.2.2.2
section RB
variable {Y : sY} {d : Nat} {s : sT} {K : Option Int32 → sT → Prop}
theorem rm_slots {w o c0 c1 e0 e1 : Nat} {R : rmT} (hw : rmK Y s.2 w c0 c1) (ho : rmK Y s.2 o e0 e1) (hS : ∀ k, k < 4 → txC s.1 (o + 33 + 2 * k) (R.2.2.2.2.1 k).1) (hB : ∀ k, k < 4 → (R.2.2.2.2.1 k).1.1 ≤ 30) (hdis : w + 41 ≤ o ∨ o + 41 ≤ w)
    (h : ∀ s' : sT, s'.2 = s.2 → (∀ i, ¬ (w + 33 ≤ i ∧ i < w + 41) → s'.1 i = s.1 i) → (∀ k, k < 4 → txC s'.1 (w + 33 + 2 * k) (R.2.2.2.2.1 k).1) → K none s') : tT Y (d + 2) 30 60 [.ref w, .ref o, .int 0] [] s K := by
  have loop : ∀ m k (s1 : sT), m + k = 4 → s1.2 = s.2 → (∀ i, ¬ (w + 33 ≤ i ∧ i < w + 41) → s1.1 i = s.1 i) → (∀ j, j < k → txC s1.1 (w + 33 + 2 * j) (R.2.2.2.2.1 j).1) → tT Y (d + 2) 30 60 [.ref w, .ref o, .int (nI k)] [] s1 K := by
    intro m
    induction m with
    | zero =>
      intro k s1 hk e2 e1 e3
      refine b_30_60 ?_
      rw [if_pos (by rw [nI_lit 4, nJ_le (by omega) (by omega)]; omega)]
      exact h s1 e2 e1 (fun j hj => e3 j (by omega))
    | succ m ih =>
      intro k s1 hk e2 e1 e3
      have hk4 : k < 4 := by omega
      obtain ⟨w1, ⟨_, _, w4, _⟩, _, _, ⟨w6, w7⟩, _⟩ := hw
      obtain ⟨o1, ⟨_, _, o4, _⟩, _, _, ⟨o6, o7⟩, _⟩ := ho
      refine b_30_60 ?_
      rw [if_neg (by rw [nI_lit 4, nJ_le (by omega) (by omega)]; omega), nI_cl (by omega)]
      refine ⟨w + 22, ⟨w1, by rw [e2]; exact w4⟩, 7, 4, w + 33 + 2 * k, ⟨w6, inR_nI hk4 (by decide), by rw [e2]; exact (w7 k hk4).1⟩, o + 22, ⟨o1, by rw [e2]; exact o4⟩, 7, 4, o + 33 + 2 * k, ⟨o6, inR_nI hk4 (by decide), by rw [e2]; exact (o7 k hk4).1⟩, (w7 k hk4).2.1, ?_⟩
      have hsrc : txC s1.1 (o + 33 + 2 * k) (R.2.2.2.2.1 k).1 := txC_off (hS k hk4) (e1 _ (by omega)) (e1 _ (by omega))
      refine x_become (d := d) (cap := 30) (capo := 30) (m := (R.2.2.2.2.1 k).1.1) (by rw [e2]; exact (w7 k hk4).2) (by rw [e2]; exact (o7 k hk4).2) hsrc.1 (hB k hk4) (hB k hk4) (by omega) (by omega) (by omega) (fun s2 g2 g1 g3 go => ?_)
      rw [rt_none]
      refine b_30_80 ?_
      have := ih (k + 1) s2 (by omega) (g2.trans e2) (fun i hi => ((go i (by omega)).1).trans (e1 i hi)) (fun j hj => ?_)
      · rw [nI_succ] at this; exact this
      · by_cases e : j = k
        · subst e
          exact ⟨g1, fun q hq => (g3 q hq).trans (hsrc.2 q hq)⟩
        · exact txC_off (e3 j (by omega)) (go _ (by omega)).1 (go _ (by omega)).1
  exact loop 4 0 s (by omega) rfl (fun _ _ => rfl) (fun j hj => absurd hj (Nat.not_lt_zero j))
theorem rm_become {w o c0 c1 e0 e1 : Nat} {R : rmT} (hw : rmK Y s.2 w c0 c1) (ho : rmK Y s.2 o e0 e1) (hR : rmC s.1 e0 e1 o R) (hB : rmN R) (hdis : w + 41 ≤ o ∨ o + 41 ≤ w)
    (h : ∀ s' : sT, s'.2 = s.2 → (∀ i, ¬ (w ≤ i ∧ i < w + 41) → s'.1 i = s.1 i) → rmC s'.1 c0 c1 w R → K none s') : tT Y (d + 3) 30 0 [.ref w, .ref o, .null] [] s K := by
  have hw0 := hw
  have ho0 := ho
  obtain ⟨w1, ⟨w2, w3, w4, w5⟩, wt, ⟨wq, wc0, wc1⟩, ⟨w6, w7⟩, ws0, ws1, wl, wc⟩ := hw
  obtain ⟨o1, ⟨o2, o3, o4, o5⟩, ot, ⟨oq, oc0, oc1⟩, ⟨o6, o7⟩, os0, os1, ol, oc⟩ := ho
  obtain ⟨b1, b2, b3, b4, b5⟩ := hB
  have hoc0 : o ≤ e0 ∧ e0 + 9 ≤ o + 41 := by omega
  have hoc1 : o ≤ e1 ∧ e1 + 9 ≤ o + 41 := by omega
  -- the tape
  refine b_30_0 ⟨w + 1, ⟨w1, w2⟩, o + 1, ⟨o1, o2⟩, wt.1, x_become (d := d + 1) wt ot hR.1.1 b1 b1 (by omega) (by omega) (by omega) (fun s1 e2 f1 f3 eo => ?_)⟩
  rw [rt_none]
  have off1 : ∀ i, ¬ (i = w + 1 ∨ i = w + 1 + 1) → s1.1 i = s.1 i := fun i hi => (eo i hi).1
  have tp1 : txC s1.1 (w + 1) R.1 := ⟨f1, fun j hj => (f3 j hj).trans (hR.1.2 j hj)⟩
  -- the fault
  refine b_30_11 ⟨o1, w1, w + 23, ⟨w1, by show s1.2 w 3 = _; rw [e2]; exact w5⟩, o + 23, ⟨o1, by show s1.2 o 3 = _; rw [e2]; exact o5⟩, wl.1, ?_⟩
  have t2 : (pV s1 w 4 (s1.1 o 4)).2 = s.2 := e2
  have off2 : ∀ i, i ≠ w → (pV s1 w 4 (s1.1 o 4)).1 i = s1.1 i := fun i hi => by funext j; rw [pV_1, if_neg (fun z => hi z.1)]
  have flt2 : (pV s1 w 4 (s1.1 o 4)).1 w 4 = R.2.1 := by rw [pV_1, if_pos ⟨rfl, rfl⟩, off1 o (by omega)]; exact hR.2.1
  generalize pV s1 w 4 (s1.1 o 4) = s2 at t2 off2 flt2 ⊢
  have all2 : ∀ i, ¬ (w ≤ i ∧ i < w + 3) → s2.1 i = s.1 i := fun i hi => (off2 i (by omega)).trans (off1 i (by omega))
  -- the lines
  refine ln_become (d := d) (by rw [t2]; exact wl) (by rw [t2]; exact ol) (lnC_off hR.2.2.2.2.2 (fun i _ _ => all2 i (by omega))) b5 (by omega) (fun s3 g2 goff gN => ?_)
  rw [rt_none]
  have t3 : s3.2 = s.2 := g2.trans t2
  have all3 : ∀ i, ¬ (w ≤ i ∧ i < w + 3) → ¬ (w + 23 ≤ i ∧ i < w + 32) → s3.1 i = s.1 i := fun i h1 h2 => (goff i (by omega)).trans (all2 i h1)
  refine b_30_30 (b_30_32 ?_)
  rw [if_neg (by decide)]
  have z0 : ((0 : Int32)).toNatClampNeg = 0 := rfl
  refine ⟨w + 3, ⟨w1, by rw [t3]; exact w3⟩, 5, 2, c0, ⟨wq, inR_nI (k := 0) (by decide) (by decide), by rw [t3]; exact wc0⟩, o + 3, ⟨o1, by rw [t3]; exact o3⟩, 5, 2, e0, ⟨oq, inR_nI (k := 0) (by decide) (by decide), by rw [t3]; exact oc0⟩, ws0.1, ?_⟩
  refine sd_become (d := d) (by rw [t3]; exact ws0) (by rw [t3]; exact os0) (sdC_off hR.2.2.1 (fun i _ _ => all3 i (by omega) (by omega))) b2 (by omega) (fun s4 k2 koff kD => ?_)
  rw [rt_none]
  have t4 : s4.2 = s.2 := k2.trans t3
  have all4 : ∀ i, ¬ (w ≤ i ∧ i < w + 3) → ¬ (w + 23 ≤ i ∧ i < w + 32) → ¬ (c0 ≤ i ∧ i < c0 + 9) → s4.1 i = s.1 i := fun i h1 h2 h3 => (koff i h3).trans (all3 i h1 h2)
  refine b_30_52 (b_30_32 ?_)
  rw [if_neg (by decide)]
  have z1 : ((0 : Int32) + 1).toNatClampNeg = 1 := rfl
  refine ⟨w + 3, ⟨w1, by rw [t4]; exact w3⟩, 5, 2, c1, ⟨wq, inR_nI (k := 1) (by decide) (by decide), by rw [t4]; exact wc1⟩, o + 3, ⟨o1, by rw [t4]; exact o3⟩, 5, 2, e1, ⟨oq, inR_nI (k := 1) (by decide) (by decide), by rw [t4]; exact oc1⟩, ws1.1, ?_⟩
  refine sd_become (d := d) (by rw [t4]; exact ws1) (by rw [t4]; exact os1) (sdC_off hR.2.2.2.1 (fun i _ _ => all4 i (by omega) (by omega) (by omega))) b3 (by omega) (fun s5 m2 moff mD => ?_)
  rw [rt_none]
  have t5 : s5.2 = s.2 := m2.trans t4
  have all5 : ∀ i, ¬ (w ≤ i ∧ i < w + 33) → s5.1 i = s.1 i := fun i h1 => (moff i (by omega)).trans (all4 i (by omega) (by omega) (by omega))
  refine b_30_52 (b_30_32 ?_)
  rw [if_pos (by decide)]
  refine rm_slots (d := d + 1) (R := R) (c0 := c0) (c1 := c1) (e0 := e0) (e1 := e1) (by rw [t5]; exact hw0) (by rw [t5]; exact ho0) (fun k hk => txC_off (hR.2.2.2.2.1 k hk) (all5 _ (by omega)) (all5 _ (by omega))) b4 hdis (fun s6 n2 noff nT => ?_)
  refine h s6 (n2.trans t5) (fun i hi => (noff i (by omega)).trans (all5 i (by omega))) ?_
  refine ⟨?_, ?_, ?_, ?_, nT, ?_⟩
  · refine txC_off tp1 ?_ ?_
    · rw [noff _ (by omega), moff _ (by omega), koff _ (by omega), goff _ (by omega), off2 _ (by omega)]
    · rw [noff _ (by omega), moff _ (by omega), koff _ (by omega), goff _ (by omega), off2 _ (by omega)]
  · rw [noff w (by omega), moff w (by omega), koff w (by omega), goff w (by omega)]; exact flt2
  · exact sdC_off kD (fun i _ _ => by rw [noff i (by omega), moff i (by omega)])
  · exact sdC_off mD (fun i _ _ => noff i (by omega))
  · exact lnC_off gN (fun i _ _ => by rw [noff i (by omega), moff i (by omega), koff i (by omega)])
end RB
