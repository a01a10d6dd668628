/-! PAIRS OF CALLS: keep, swap -/
section H5
variable {GD : sdT → Prop} {L : Nat} {xs : Nat → Int32} {D : Nat}
/-- the reference copies a stretch of its row -/
theorem r_copies {d : Nat} {s : sT} {K : Option Int32 → sT → Prop} (hM : rM s.2) {p q n : Nat} (hp : p + n ≤ 42882) (hq : q + n ≤ 42882) (hd : p + n ≤ q ∨ q + n ≤ p) (h : ∀ s' : sT, s'.2 = s.2 → (∀ i, i ≠ 187 → s'.1 i = s.1 i) → (∀ j, s'.1 187 j = if q ≤ j ∧ j < q + n then s.1 187 (p + (j - q)) else s.1 187 j) → K none s') : tT (yY L xs) d 152 0 [.ref 186, .int (nI p), .int (nI q), .int (nI n), .null] [] s K := by
  have loop : ∀ m k (s1 : sT), m + k = n → s1.2 = s.2 → (∀ i, i ≠ 187 → s1.1 i = s.1 i) → (∀ j, s1.1 187 j = if q ≤ j ∧ j < q + k then s.1 187 (p + (j - q)) else s.1 187 j) → tT (yY L xs) d 152 3 [.ref 186, .int (nI p), .int (nI q), .int (nI n), .int (nI k)] [] s1 K := by
    intro m
    induction m with
    | zero =>
      intro k s1 hk e2 e1 e3
      refine b_152_3 ?_
      rw [if_pos (by rw [nJ_le (by omega) (by omega)]; omega)]
      refine h s1 e2 e1 ?_
      rw [show n = k by omega]; exact e3
    | succ m ih =>
      intro k s1 hk e2 e1 e3
      refine b_152_3 ?_
      rw [if_neg (by rw [nJ_le (by omega) (by omega)]; omega), nJ_add, nJ_add, nI_cl (by omega), nI_cl (by omega)]
      refine ⟨187, ⟨so_186, by rw [e2]; exact rm_186_0 hM⟩, 187, ⟨so_186, by rw [e2]; exact rm_186_0 hM⟩, 42882, ⟨sa_187, inR_nI (by omega) (by omega)⟩, 42882, ⟨sa_187, inR_nI (by omega) (by omega)⟩, ?_⟩
      have e4 : s1.1 187 (p + k) = s.1 187 (p + k) := by rw [e3, if_neg (by omega)]
      have := ih (k + 1) (pV s1 187 (q + k) (s1.1 187 (p + k))) (by omega) e2 (fun i hi => by rw [← e1 i hi]; funext j; rw [pV_1, if_neg (by omega)]) (fun j => ?_)
      · rw [nI_succ] at this; exact this
      · rw [pV_1, e4]
        by_cases hj : j = q + k
        · rw [if_pos ⟨rfl, hj⟩, if_pos (by omega), show p + (j - q) = p + k by omega]
        · rw [if_neg (fun z => hj z.2), e3]
          by_cases hj2 : q ≤ j ∧ j < q + k
          · rw [if_pos hj2, if_pos (by omega)]
          · rw [if_neg hj2, if_neg (by omega)]
  refine b_152_0 ?_
  exact loop n 0 s (by omega) rfl (fun _ _ => rfl) (fun j => by rw [if_neg (by omega)])
/-- no lines -/
def lnZ : lnT := ((0, fun _ => 0, fun _ => 0, fun _ => 0), fun _ => 0, fun _ _ => 0, 0, none)
theorem lnZ_n {p : Nat → Prop} : ∀ i, i < lnZ.1.1 → p i := fun i hi => absurd hi (Nat.not_lt_zero i)
theorem lnB_Z : lnB lnZ := ⟨(by decide), lnZ_n, (fun q hq => by cases hq)⟩
theorem c_clear {d : Nat} {s : sT} {K : Option Int32 → sT → Prop} {l : Nat} {Y : sY} (ho : isO Y l 1) (ho7 : isO Y (l + 7) 7) (hρ : s.2 l 6 = some (l + 7)) (h : ∀ s' : sT, s'.2 = s.2 → (∀ i, i ≠ l → i ≠ l + 7 → s'.1 i = s.1 i) → lnC s'.1 l lnZ → K none s') : tT Y (d + 1) 9 0 [.ref l] [] s K := by
  refine b_9_0 ⟨ho, ho, ho, ho, Or.inl rfl, l + 7, ⟨ho, hρ⟩, ho7, x_clear ho7 ?_⟩
  rw [rt_none]
  refine b_9_27 (h _ rfl (fun i h1 h2 => ?_) ?_)
  · funext j
    rw [pV_1, pV_1, pV_1, pV_1, pV_1, if_neg (by omega), if_neg (by omega), if_neg (by omega), if_neg (by omega), if_neg (by omega)]
  · refine ⟨⟨?_, ?_, ?_⟩, lnZ_n, lnZ_n, lnZ_n, lnZ_n, lnZ_n, lnZ_n, ⟨0, by decide, ?_⟩, ?_⟩
    · simp [pV_1]; rfl
    · simp [pV_1]; rfl
    · simp [pV_1]; rfl
    · simp [pV_1]; rfl
    · show _ = _
      simp [pV_1]
theorem r_forgets {d : Nat} {s : sT} {K : Option Int32 → sT → Prop} (hM : rM s.2) (h : ∀ s' : sT, s'.2 = s.2 → (∀ i, i ≠ 187 → s'.1 i = s.1 i) → (∀ j, ¬ (186 ≤ j ∧ j < 10689) → s'.1 187 j = s.1 187 j) → lnR (s'.1 187) 0 lnZ → K none s') : tT (yY L xs) d 190 0 [.ref 186, .int 0] [] s K := by
  have e1 : ((0 : Int32) + 186).toNatClampNeg = 186 := rfl
  have e2 : ((0 : Int32) + 10387).toNatClampNeg = 10387 := rfl
  have e3 : ((0 : Int32) + 10388).toNatClampNeg = 10388 := rfl
  refine b_190_0 ⟨187, ⟨so_186, rm_186_0 hM⟩, 42882, ⟨sa_187, inR_nI (k := 186) (by decide) (by decide)⟩, 187, ⟨so_186, rm_186_0 hM⟩, 42882, ⟨sa_187, inR_nI (k := 10387) (by decide) (by decide)⟩, 187, ⟨so_186, rm_186_0 hM⟩, 42882, ⟨sa_187, inR_nI (k := 10388) (by decide) (by decide)⟩, ?_⟩
  rw [e1, e2, e3]
  refine h _ rfl (fun i hi => ?_) (fun j hj => ?_) ?_
  · funext j
    rw [pV_1, pV_1, pV_1, if_neg (by omega), if_neg (by omega), if_neg (by omega)]
  · rw [pV_1, pV_1, pV_1, if_neg (by omega), if_neg (by omega), if_neg (by omega)]
  · refine ⟨?_, lnZ_n, lnZ_n, lnZ_n, lnZ_n, lnZ_n, ?_, ?_⟩
    · simp [pV_1]; rfl
    · simp [pV_1]; rfl
    · show _ = _
      simp [pV_1]
theorem c_isSide {Y : sY} {d : Nat} {s : sT} {K : Option Int32 → sT → Prop} {x : Int32} (h1 : ∀ k, k < 2 → x = nI k → K (some 1) s) (h0 : (∀ k, k < 2 → ¬ x = nI k) → K (some 0) s) : tT Y d 138 0 [.int x] [] s K := by
  refine b_138_0 ?_
  split
  · rename_i hx
    exact h0 (fun k hk e => by rw [e] at hx; exact nI_nn (by omega) hx)
  · rename_i hx
    obtain ⟨n, hn, rfl⟩ := i32_ex hx
    split
    · rename_i h2
      rw [nI_lit 2, nJ_le (by omega) hn] at h2
      exact h0 (fun k hk e => by rw [nJ_eq hn (by omega)] at e; omega)
    · rename_i h2
      rw [nI_lit 2, nJ_le (by omega) hn] at h2
      exact h1 n (by omega) rfl
theorem c_isSlot {Y : sY} {d : Nat} {s : sT} {K : Option Int32 → sT → Prop} {x : Int32} (h1 : ∀ k, k < 4 → x = nI k → K (some 1) s) (h0 : (∀ k, k < 4 → ¬ x = nI k) → K (some 0) s) : tT Y d 139 0 [.int x] [] s K := by
  refine b_139_0 ?_
  split
  · rename_i hx
    exact h0 (fun k hk e => by rw [e] at hx; exact nI_nn (by omega) hx)
  · rename_i hx
    obtain ⟨n, hn, rfl⟩ := i32_ex hx
    split
    · rename_i h2
      rw [nI_lit 4, nJ_le (by omega) hn] at h2
      exact h0 (fun k hk e => by rw [nJ_eq hn (by omega)] at e; omega)
    · rename_i h2
      rw [nI_lit 4, nJ_le (by omega) hn] at h2
      exact h1 n (by omega) rfl
theorem r_isSide {Y : sY} {d : Nat} {s : sT} {K : Option Int32 → sT → Prop} {x : Int32} (h1 : ∀ k, k < 2 → x = nI k → K (some 1) s) (h0 : (∀ k, k < 2 → ¬ x = nI k) → K (some 0) s) : tT Y d 209 0 [.int x] [] s K := by
  refine b_209_0 ?_
  split
  · rename_i e; exact h1 0 (by decide) e
  · rename_i e
    split
    · rename_i e2
      refine h0 (fun k hk e3 => ?_)
      rcases (show k = 0 ∨ k = 1 by omega) with rfl | rfl
      · exact e e3
      · exact e2 e3
    · rename_i e2; exact h1 1 (by decide) (Classical.byContradiction e2)
theorem r_isSlot {Y : sY} {d : Nat} {s : sT} {K : Option Int32 → sT → Prop} {x : Int32} (h1 : ∀ k, k < 4 → x = nI k → K (some 1) s) (h0 : (∀ k, k < 4 → ¬ x = nI k) → K (some 0) s) : tT Y (d + 1) 194 0 [.int x] [] s K := by
  refine b_194_0 (m_isIn (fun hx hy => ?_) (fun hx => ?_)) <;> rw [rt_some]
  · refine b_194_6 ⟨Or.inr rfl, ?_⟩
    obtain ⟨n, hn, rfl⟩ := i32_ex hx
    rw [nI_lit 3, nJ_lt (by omega) hn] at hy
    exact h1 n (by omega) rfl
  · refine b_194_6 ⟨Or.inl rfl, h0 (fun k hk e => ?_)⟩
    rw [e] at hx
    rcases hx with h | h
    · exact nI_nn (by omega) h
    · rw [nI_lit 3, nJ_lt (by omega) (by omega)] at h; omega
/-- slot k holds D -/
def rmS (R : rmT) (k : Nat) (X : sdT) : rmT := (R.1, R.2.1, R.2.2.1, R.2.2.2.1, ll_up R.2.2.2.2.1 k X, R.2.2.2.2.2)
def sideOf (R : rmT) (k : Nat) : sdT := if k = 0 then R.2.2.1 else R.2.2.2.1
theorem cSides_at {ρ : Nat → Nat → Option Nat} {c0 c1 : Nat} (h : cSides ρ c0 c1) {k : Nat} (hk : k < 2) : ∃ c, ρ 64 k = some c ∧ (c = 65 ∨ c = 74) ∧ c = (if k = 0 then c0 else c1) := by
  obtain ⟨h1, h2, h3⟩ := h
  rcases (show k = 0 ∨ k = 1 by omega) with rfl | rfl
  · exact ⟨c0, h1, by omega, rfl⟩
  · exact ⟨c1, h2, by omega, rfl⟩
theorem rmC_side {v : Nat → Nat → Int32} {c0 c1 w : Nat} {R : rmT} (h : rmC v c0 c1 w R) (k : Nat) : sdC v (if k = 0 then c0 else c1) (sideOf R k) := by
  unfold sideOf
  split
  · exact h.2.2.1
  · exact h.2.2.2.1
theorem c_keep (hGD : ∀ D, GD D → sdB D) {s : sT} {R : rmT} {I : Nat → Option rmT} (hC : simC s R I) (hB : rmB GD R) {i k : Nat} (hi : i < 2) (hk : k < 4) : doC (yY L xs) (D + 2) 118 [.ref 0, .int (nI i), .int (nI k)] s R I (some 1) (rmS R k (sideOf R i)) I := by
  intro K kk
  have hC0 := hC
  obtain ⟨c0, c1, hc, hr⟩ := hC.2.1
  have hP := hC.1
  refine b_118_0 (c_isSide (fun i' hi' e => ?_) (fun h => absurd rfl (h i hi)))
  rw [rt_some]
  refine b_118_4 ?_
  rw [if_neg (by decide)]
  refine c_isSlot (fun k' hk' e => ?_) (fun h => absurd rfl (h k hk))
  rw [rt_some]
  refine b_118_11 ?_
  rw [if_pos (by decide)]
  obtain ⟨c, hc64, hcc, hcd⟩ := cSides_at hc hi
  have hsl : s.2 83 k = some (94 + 2 * k) := by
    rcases (show k = 0 ∨ k = 1 ∨ k = 2 ∨ k = 3 by omega) with rfl | rfl | rfl | rfl
    · exact rp_83_0 hP
    · exact rp_83_1 hP
    · exact rp_83_2 hP
    · exact rp_83_3 hP
  have hto : tX (yY L xs) s.2 (94 + 2 * k) 30 := by
    rcases (show k = 0 ∨ k = 1 ∨ k = 2 ∨ k = 3 by omega) with rfl | rfl | rfl | rfl
    · exact ⟨so_94, sa_95, rp_94_0 hP, by decide⟩
    · exact ⟨so_96, sa_97, rp_96_0 hP, by decide⟩
    · exact ⟨so_98, sa_99, rp_98_0 hP, by decide⟩
    · exact ⟨so_100, sa_101, rp_100_0 hP, by decide⟩
  have hfrom : isO (yY L xs) c 5 ∧ s.2 c 0 = some (c + 1) ∧ tX (yY L xs) s.2 (c + 1) 30 := by
    rcases hcc with rfl | rfl
    · exact ⟨so_65, rp_65_0 hP, so_66, sa_67, rp_66_0 hP, by decide⟩
    · exact ⟨so_74, rp_74_0 hP, so_75, sa_76, rp_75_0 hP, by decide⟩
  have hsd : sdC s.1 c (sideOf R i) := by rw [hcd]; exact rmC_side hr i
  have hn : (sideOf R i).1.1 ≤ 30 := by
    unfold sideOf
    split
    · exact (hGD _ hB.2.1).1
    · exact (hGD _ hB.2.2.1).1
  refine ⟨61, ⟨so_0, rp_0_8 hP⟩, 83, ⟨so_61, rp_61_2 hP⟩, 7, 4, 94 + 2 * k, ⟨sq_83, inR_nI hk (by decide), by rw [nI_cl (by omega)]; exact hsl⟩, 61, ⟨so_0, rp_0_8 hP⟩, 64, ⟨so_61, rp_61_1 hP⟩, 5, 2, c, ⟨sq_64, inR_nI hi (by decide), by rw [nI_cl (by omega)]; exact hc64⟩, c + 1, ⟨hfrom.1, hfrom.2.1⟩, hto.1, ?_⟩
  refine x_become (m := (sideOf R i).1.1) hto hfrom.2.2 hsd.1.1 hn hn (by omega) (by omega) (by omega) (fun s' e2 e1 e3 eo => ?_)
  rw [rt_none]
  refine b_118_40 (kk s' ?_ (fun j hj => eo j (by omega)))
  have hoff : ∀ j, j ≠ 94 + 2 * k → j ≠ 94 + 2 * k + 1 → s'.1 j = s.1 j := fun j h1 h2 => (eo j (by omega)).1
  obtain ⟨q1, -, q3⟩ := hC0
  obtain ⟨r1, r2, r3, r4, r5, r6⟩ := hr
  have hcc2 := hc.2.2
  refine ⟨by rw [e2]; exact q1, ⟨c0, c1, by rw [e2]; exact hc, txC_off r1 (hoff _ (by omega) (by omega)) (hoff _ (by omega) (by omega)), by rw [hoff 61 (by omega) (by omega)]; exact r2, sdC_off r3 (fun j _ _ => hoff j (by omega) (by omega)), sdC_off r4 (fun j _ _ => hoff j (by omega) (by omega)), fun j hj => ?_, lnC_off r6 (fun j _ _ => hoff j (by omega) (by omega))⟩, fun j hj => ?_⟩
  · show txC s'.1 (61 + 33 + 2 * j) (ll_up R.2.2.2.2.1 k (sideOf R i) j).1
    unfold ll_up
    by_cases e : j = k
    · subst e
      rw [if_pos rfl]
      exact ⟨e1, fun q hq => (e3 q hq).trans (hsd.1.2 q hq)⟩
    · rw [if_neg e]
      exact txC_off (r5 j hj) (hoff _ (by omega) (by omega)) (hoff _ (by omega) (by omega))
  · have := q3 j hj
    cases hI : I j with
    | none => rw [hI] at this; simp only at this ⊢; rw [hoff 185 (by omega) (by omega)]; exact this
    | some R' =>
      rw [hI] at this
      simp only at this ⊢
      rw [hoff 185 (by omega) (by omega)]
      exact ⟨this.1, rmC_off this.2 ⟨by omega, by omega⟩ ⟨by omega, by omega⟩ (fun i _ _ => hoff i (by omega) (by omega))⟩
/-- the texts of the reference's row change, the rest of the room stays -/
theorem simR_tx {s s' : sT} {R R' : rmT} {I : Nat → Option rmT} (hGD : ∀ D, GD D → sdB D) (h : simR s R I) (hB : rmB GD R) (hI : ∀ k R', k < 2 → I k = some R' → rmB GD R') (h2 : s'.2 = s.2) (he : ∀ i, 186 ≤ i → i ≠ 187 → s'.1 i = s.1 i) (ha : ∀ j, 21378 ≤ j → s'.1 187 j = s.1 187 j) (hR : rmR (s'.1 187) 0 R') (ht : R'.1 = R.1) (hf : R'.2.1 = R.2.1) : simR s' R' I := by
  obtain ⟨q1, -, q2, q3⟩ := h
  refine ⟨by rw [h2]; exact q1, hR, ?_, fun k hk => ?_⟩
  · unfold tpR at q2 ⊢
    rw [he 186 (by decide) (by decide), he 188 (by decide) (by decide), ht, hf]; exact q2
  · have := q3 k hk
    cases hIk : I k with
    | none => rw [hIk] at this; simp only at this ⊢; rw [he 189 (by decide) (by decide)]; exact this
    | some R'' =>
      rw [hIk] at this
      simp only at this ⊢
      have hb := hI k R'' hk hIk
      rw [he 189 (by decide) (by decide), ha _ (by omega), ha _ (by omega)]
      refine ⟨this.1, rmR_off hGD this.2.1 hb (fun j _ _ => ha j (by omega)), fun j hj => ?_, this.2.2.2⟩
      rw [ha _ (by omega)]; exact this.2.2.1 j hj
theorem rmR_side {a : Nat → Int32} {R : rmT} (h : rmR a 0 R) {i : Nat} (hi : i < 2) : txR a (31 * i) (sideOf R i).1 := by
  unfold sideOf
  rcases (show i = 0 ∨ i = 1 by omega) with rfl | rfl
  · exact h.1
  · have := h.2.1
    simp only [Nat.zero_add] at this
    exact this
theorem r_keep (hGD : ∀ D, GD D → sdB D) {s : sT} {R : rmT} {I : Nat → Option rmT} (hR : simR s R I) (hB : rmB GD R) (hI : ∀ k R', k < 2 → I k = some R' → rmB GD R') {i k : Nat} (hi : i < 2) (hk : k < 4) : doR (yY L xs) (D + 2) 214 [.ref 186, .int (nI i), .int (nI k)] s R I (some 1) (rmS R k (sideOf R i)) I := by
  intro K kk
  have hR0 := hR
  obtain ⟨hM, hr, -, -⟩ := hR
  refine b_214_0 (r_isSide (fun i' hi' e => ?_) (fun h => absurd rfl (h i hi)))
  rw [rt_some]
  refine b_214_4 ?_
  rw [if_neg (by decide)]
  refine r_isSlot (fun k' hk' e => ?_) (fun h => absurd rfl (h k hk))
  rw [rt_some]
  refine b_214_11 ?_
  rw [if_pos (by decide)]
  refine ⟨so_186, ?_⟩
  rw [nI_lit 31, nI_lit 62, nJ_mul, nJ_mul, nJ_add]
  refine r_copies hM (by omega) (by omega) (by omega) (fun s' e2 e1 e3 => ?_)
  rw [rt_none]
  refine b_214_33 (kk s' (simR_tx hGD hR0 hB hI e2 (fun i _ h => e1 i h) (fun j hj => by rw [e3, if_neg (by omega)]) ?_ rfl rfl) (fun j hj => ⟨e1 j (by omega), by rw [e2]⟩))
  have hoff : ∀ j, ¬ (62 + 31 * k ≤ j ∧ j < 62 + 31 * k + 31) → s'.1 187 j = s.1 187 j := fun j hj => by rw [e3, if_neg hj]
  obtain ⟨r1, r2, r3, r4⟩ := hr
  obtain ⟨-, g0, g1, g2, g3⟩ := hB
  have hn : (sideOf R i).1.1 ≤ 30 := by
    unfold sideOf
    split
    · exact (hGD _ g0).1
    · exact (hGD _ g1).1
  refine ⟨txR_off r1 (hGD _ g0).1 (fun j _ _ => hoff j (by omega)), txR_off r2 (hGD _ g1).1 (fun j _ _ => hoff j (by omega)), fun j hj => ?_, lnR_off r4 g3 (fun j _ _ => hoff j (by omega))⟩
  show txR (s'.1 187) (0 + 62 + 31 * j) (ll_up R.2.2.2.2.1 k (sideOf R i) j).1
  unfold ll_up
  by_cases e : j = k
  · subst e
    rw [if_pos rfl]
    have hs := rmR_side hR0.2.1 hi
    refine ⟨?_, fun q hq => ?_⟩
    · rw [e3, if_pos (by omega), show 31 * i + (0 + 62 + 31 * j - (62 + 31 * j)) = 31 * i by omega]; exact hs.1
    · rw [e3, if_pos (by omega), show 31 * i + (0 + 62 + 31 * j + 1 + q - (62 + 31 * j)) = 31 * i + 1 + q by omega]; exact hs.2 q hq
  · rw [if_neg e]
    exact txR_off (r3 j hj) (hGD _ (g2 j hj)).1 (fun q _ _ => hoff q (by omega))
/-- a call that both refuse -/
theorem c_keep_no {s : sT} {R : rmT} {I : Nat → Option rmT} (hC : simC s R I) {a b : Int32} (h : (∀ k, k < 2 → ¬ a = nI k) ∨ ∀ k, k < 4 → ¬ b = nI k) : doC (yY L xs) (D + 2) 118 [.ref 0, .int a, .int b] s R I (some 0) R I := by
  intro K kk
  have k0 := kk s hC (fun i _ => ⟨rfl, rfl⟩)
  refine b_118_0 (c_isSide (fun i' hi' e => ?_) (fun _ => ?_)) <;> rw [rt_some]
  · refine b_118_4 ?_
    rw [if_neg (by decide)]
    refine c_isSlot (fun k' hk' e' => ?_) (fun _ => ?_) <;> rw [rt_some]
    · rcases h with h | h
      · exact absurd e (h i' hi')
      · exact absurd e' (h k' hk')
    · refine b_118_11 ?_
      rw [if_neg (by decide)]; exact k0
  · refine b_118_4 ?_
    rw [if_pos rfl]; exact k0
theorem r_keep_no {s : sT} {R : rmT} {I : Nat → Option rmT} (hR : simR s R I) {a b : Int32} (h : (∀ k, k < 2 → ¬ a = nI k) ∨ ∀ k, k < 4 → ¬ b = nI k) : doR (yY L xs) (D + 2) 214 [.ref 186, .int a, .int b] s R I (some 0) R I := by
  intro K kk
  have k0 := kk s hR (fun i _ => ⟨rfl, rfl⟩)
  refine b_214_0 (r_isSide (fun i' hi' e => ?_) (fun _ => ?_)) <;> rw [rt_some]
  · refine b_214_4 ?_
    rw [if_neg (by decide)]
    refine r_isSlot (fun k' hk' e' => ?_) (fun _ => ?_) <;> rw [rt_some]
    · rcases h with h | h
      · exact absurd e (h i' hi')
      · exact absurd e' (h k' hk')
    · refine b_214_11 ?_
      rw [if_neg (by decide)]; exact k0
  · refine b_214_4 ?_
    rw [if_pos rfl]; exact k0
theorem gd_side {R : rmT} (hB : rmB GD R) (i : Nat) : GD (sideOf R i) := by
  unfold sideOf
  split
  · exact hB.2.1
  · exact hB.2.2.1
theorem rmB_S {R : rmT} {k : Nat} {X : sdT} (hB : rmB GD R) (hX : GD X) : rmB GD (rmS R k X) := by
  refine ⟨hB.1, hB.2.1, hB.2.2.1, fun j hj => ?_, hB.2.2.2.2⟩
  show GD (ll_up R.2.2.2.2.1 k X j)
  unfold ll_up
  split
  · exact hX
  · exact hB.2.2.2.1 j hj
theorem ex_or (n : Nat) (a : Int32) : (∃ k, k < n ∧ a = nI k) ∨ ∀ k, k < n → ¬ a = nI k := by
  by_cases h : ∃ k, k < n ∧ a = nI k
  · exact Or.inl h
  · exact Or.inr (fun k hk e => h ⟨k, hk, e⟩)
theorem pr_keep (hGD : ∀ D, GD D → sdB D) (a1 a2 : Int32) : pairOK (yY L xs) (Sim GD) (D + 2) 118 214 [.ref 0, .int a1, .int a2] [.ref 186, .int a1, .int a2] true := by
  refine pair_of fun s R I hC hR hB hI => ?_
  rcases ex_or 2 a1 with ⟨i, hi, rfl⟩ | h1
  · rcases ex_or 4 a2 with ⟨k, hk, rfl⟩ | h2
    · exact ⟨_, _, I, rfl, rmB_S hB (gd_side hB i), hI, c_keep hGD hC hB hi hk, fun _ hR1 => r_keep hGD hR1 hB hI hi hk⟩
    · exact ⟨some 0, R, I, rfl, hB, hI, c_keep_no hC (Or.inr h2), fun _ hR1 => r_keep_no hR1 (Or.inr h2)⟩
  · exact ⟨some 0, R, I, rfl, hB, hI, c_keep_no hC (Or.inl h1), fun _ hR1 => r_keep_no hR1 (Or.inl h1)⟩
/-! swap -/
def rmW (R : rmT) : rmT := (R.1, R.2.1, R.2.2.2.1, R.2.2.1, R.2.2.2.2.1, lnZ)
theorem rP_pR {ρ : Nat → Nat → Option Nat} {s : sT} (h : rP s.2) (hρ : ∀ i k, ¬ (i = 64 ∧ k < 2) → ρ i k = s.2 i k) : rP ρ := by
  unfold rP at h ⊢
  simp only [hρ, Nat.reduceEqDiff, false_and, not_false_eq_true]
  exact h
theorem c_swap {s : sT} {R : rmT} {I : Nat → Option rmT} (hC : simC s R I) : doC (yY L xs) (D + 2) 117 [.ref 0, .null] s R I none (rmW R) I := by
  intro K kk
  obtain ⟨hP, ⟨c0, c1, hc, hr⟩, q3⟩ := hC
  obtain ⟨h0, h1, hcc⟩ := hc
  have o0 : isO (yY L xs) c0 5 := by rcases hcc with ⟨rfl, rfl⟩ | ⟨rfl, rfl⟩; exact so_65; exact so_74
  have o1 : isO (yY L xs) c1 5 := by rcases hcc with ⟨rfl, rfl⟩ | ⟨rfl, rfl⟩; exact so_74; exact so_65
  have z0 : ((0 : Int32)).toNatClampNeg = 0 := rfl
  have z1 : ((1 : Int32)).toNatClampNeg = 1 := rfl
  have i0 : inR (0 : Int32) 2 := inR_nI (k := 0) (by decide) (by decide)
  have i1 : inR (1 : Int32) 2 := inR_nI (k := 1) (by decide) (by decide)
  rcases hs : pR (pR s 64 0 (some c1)) 64 1 (some c0) with ⟨v2, ρ2⟩
  have hρ : ∀ i k, ¬ (i = 64 ∧ k < 2) → ρ2 i k = s.2 i k := by
    intro i k hik
    have : ρ2 = (pR (pR s 64 0 (some c1)) 64 1 (some c0)).2 := by rw [hs]
    rw [this, pR_2, if_neg (by omega), pR_2, if_neg (by omega)]
  have hP2 : rP ρ2 := rP_pR hP hρ
  have hv2 : v2 = s.1 := by
    have : v2 = (pR (pR s 64 0 (some c1)) 64 1 (some c0)).1 := by rw [hs]
    rw [this]; rfl
  have hP1 : rP (pR s 64 0 (some c1)).2 := rP_pR hP (fun i k hik => by rw [pR_2, if_neg (by omega)])
  refine b_117_0 ⟨61, ⟨so_0, rp_0_8 hP⟩, 64, ⟨so_61, rp_61_1 hP⟩, 5, 2, c0, ⟨sq_64, i0, h0⟩, 61, ⟨so_0, rp_0_8 hP⟩, 64, ⟨so_61, rp_61_1 hP⟩, 61, ⟨so_0, rp_0_8 hP⟩, 64, ⟨so_61, rp_61_1 hP⟩, 5, 2, c1, ⟨sq_64, i1, h1⟩, 5, 2, ⟨sq_64, o1, i0⟩, ?_⟩
  rw [z0, z1]
  refine ⟨61, ⟨so_0, rp_0_8 hP1⟩, 64, ⟨so_61, rp_61_1 hP1⟩, 5, 2, ⟨sq_64, o0, i1⟩, ?_⟩
  rw [hs]
  refine ⟨61, ⟨so_0, rp_0_8 hP2⟩, 84, ⟨so_61, rp_61_3 hP2⟩, so_84, c_clear so_84 so_91 (rp_84_6 hP2) (fun s' e2 e1 eN => ?_)⟩
  rw [rt_none]
  have e1' : ∀ i, i ≠ 84 → i ≠ 91 → s'.1 i = s.1 i := fun i h h' => (e1 i h h').trans (by rw [hv2])
  have e2' : s'.2 = ρ2 := e2
  refine b_117_48 (kk s' ?_ (fun i hi => ⟨e1' i (by omega) (by omega), ?_⟩))
  · refine ⟨by rw [e2']; exact hP2, ⟨c1, c0, ⟨?_, ?_, by omega⟩, ?_⟩, fun k hk => ?_⟩
    · rw [e2']
      have : ρ2 = (pR (pR s 64 0 (some c1)) 64 1 (some c0)).2 := by rw [hs]
      rw [this, pR_2, if_neg (by omega), pR_2, if_pos ⟨rfl, rfl⟩]
    · rw [e2']
      have : ρ2 = (pR (pR s 64 0 (some c1)) 64 1 (some c0)).2 := by rw [hs]
      rw [this, pR_2, if_pos ⟨rfl, rfl⟩]
    · obtain ⟨r1, r2, r3, r4, r5, r6⟩ := hr
      exact ⟨txC_off r1 (e1' _ (by omega) (by omega)) (e1' _ (by omega) (by omega)), by rw [e1' 61 (by omega) (by omega)]; exact r2, sdC_off r4 (fun j _ _ => e1' j (by omega) (by omega)), sdC_off r3 (fun j _ _ => e1' j (by omega) (by omega)), fun j hj => txC_off (r5 j hj) (e1' _ (by omega) (by omega)) (e1' _ (by omega) (by omega)), eN⟩
    · have := q3 k hk
      cases hI : I k with
      | none => rw [hI] at this; simp only at this ⊢; rw [e1' 185 (by omega) (by omega)]; exact this
      | some R' =>
        rw [hI] at this
        simp only at this ⊢
        rw [e1' 185 (by omega) (by omega)]
        exact ⟨this.1, rmC_off this.2 ⟨by omega, by omega⟩ ⟨by omega, by omega⟩ (fun i _ _ => e1' i (by omega) (by omega))⟩
  · rw [e2']
    funext k
    exact hρ i k (by omega)
theorem r_swap (hGD : ∀ D, GD D → sdB D) {s : sT} {R : rmT} {I : Nat → Option rmT} (hR : simR s R I) (hB : rmB GD R) (hI : ∀ k R', k < 2 → I k = some R' → rmB GD R') : doR (yY L xs) (D + 1) 213 [.ref 186] s R I none (rmW R) I := by
  intro K kk
  have hR0 := hR
  obtain ⟨hM, hr, -, -⟩ := hR
  refine b_213_0 ⟨so_186, r_copies (p := 0) (q := 10689) (n := 31) hM (by omega) (by omega) (by omega) (fun s1 e2 e1 e3 => ?_)⟩
  rw [rt_none]
  have hM1 : rM s1.2 := by rw [e2]; exact hM
  refine b_213_10 ⟨so_186, r_copies (p := 31) (q := 0) (n := 31) hM1 (by omega) (by omega) (by omega) (fun s2 f2 f1 f3 => ?_)⟩
  rw [rt_none]
  have hM2 : rM s2.2 := by rw [f2]; exact hM1
  refine b_213_19 ⟨so_186, r_copies (p := 10689) (q := 31) (n := 31) hM2 (by omega) (by omega) (by omega) (fun s3 g2 g1 g3 => ?_)⟩
  rw [rt_none]
  have hM3 : rM s3.2 := by rw [g2]; exact hM2
  refine b_213_30 ⟨so_186, r_forgets hM3 (fun s4 k2 k1 k3 kN => ?_)⟩
  rw [rt_none]
  have t2 : s4.2 = s.2 := k2.trans (g2.trans (f2.trans e2))
  have t1 : ∀ i, i ≠ 187 → s4.1 i = s.1 i := fun i h => (k1 i h).trans ((g1 i h).trans ((f1 i h).trans (e1 i h)))
  have tA : ∀ j, ¬ (j < 62) → ¬ (186 ≤ j ∧ j < 10720) → s4.1 187 j = s.1 187 j := fun j h1 h2 => by
    rw [k3 j (by omega), g3, if_neg (by omega), f3, if_neg (by omega), e3, if_neg (by omega)]
  have tB : ∀ j, j < 31 → s4.1 187 j = s.1 187 (31 + j) := fun j h => by
    rw [k3 j (by omega), g3, if_neg (by omega), f3, if_pos (by omega), e3, if_neg (by omega), Nat.sub_zero]
  have tC : ∀ j, j < 31 → s4.1 187 (31 + j) = s.1 187 j := fun j h => by
    rw [k3 _ (by omega), g3, if_pos (by omega), f3, if_neg (by omega), e3, if_pos (by omega), show 0 + (10689 + (31 + j - 31) - 10689) = j by omega]
  refine b_213_35 (kk s4 (simR_tx hGD hR0 hB hI t2 (fun i _ h => t1 i h) (fun j hj => tA j (by omega) (by omega)) ?_ rfl rfl) (fun j hj => ⟨t1 j (by omega), by rw [t2]⟩))
  obtain ⟨r1, r2, r3, r4⟩ := hr
  obtain ⟨-, g0, gg1, gg2, gg3⟩ := hB
  have n0 := (hGD _ g0).1
  have n1 := (hGD _ gg1).1
  refine ⟨⟨?_, fun j hj => ?_⟩, ⟨?_, fun j hj => ?_⟩, fun j hj => ?_, kN⟩
  · rw [tB 0 (by omega)]; exact r2.1
  · have hj : j < R.2.2.2.1.1.1 := hj
    rw [show 0 + 1 + j = 1 + j by omega, tB (1 + j) (by omega)]
    have := r2.2 j hj
    rw [show 0 + 31 + 1 + j = 31 + (1 + j) by omega] at this
    exact this
  · rw [show 0 + 31 = 31 + 0 by omega, tC 0 (by omega)]; exact r1.1
  · have hj : j < R.2.2.1.1.1 := hj
    rw [show 0 + 31 + 1 + j = 31 + (1 + j) by omega, tC (1 + j) (by omega)]
    have := r1.2 j hj
    rw [show 0 + 1 + j = 1 + j by omega] at this
    exact this
  · exact txR_off (r3 j hj) (hGD _ (gg2 j hj)).1 (fun q _ _ => tA q (by omega) (by omega))
theorem pr_swap (hGD : ∀ D, GD D → sdB D) : pairOK (yY L xs) (Sim GD) (D + 2) 117 213 [.ref 0, .null] [.ref 186] false :=
  pair_of fun _ R I hC _ hB hI => ⟨none, rmW R, I, rfl, ⟨hB.1, hB.2.2.1, hB.2.1, hB.2.2.2.1, lnB_Z⟩, hI, c_swap hC, fun _ hR1 => r_swap (D := D + 1) hGD hR1 hB hI⟩
end H5
