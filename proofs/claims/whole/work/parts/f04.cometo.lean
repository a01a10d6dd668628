/-! THE SEARCH, by the class: a line that is come to -/
section CT
variable {L : Nat} {xs : Nat → Int32} {d : Nat} {s : sT} {K : Option Int32 → sT → Prop} {X0 X1 : Cond} {l c0 c1 n0 : Nat} {C : List cmT} {E : List dnT}
theorem nn1 {k : Nat} (h : k < 2147483648) : ¬ nI k = -1 := fun q => by
  have h2 := nI_nn (a := k) h
  rw [q] at h2
  exact h2 (by decide)
theorem c_addLine {n : Nat} {g S : Int32} (hk : lnK (yY L xs) s.2 l) (h8 : s.1 l 8 = nI n) (hn : n ≤ 300) (h0 : n = 300 → K (some (-1)) s)
    (h1 : n < 300 → ∀ s', s'.2 = s.2 → (∀ z, ¬ (l ≤ z ∧ z ≤ l + 5) → s'.1 z = s.1 z) → s'.1 l 8 = nI (n + 1) → (∀ j, j ≠ 8 → s'.1 l j = s.1 l j) → (∀ j, s'.1 (l + 1) j = if j = n then g else s.1 (l + 1) j) → (∀ j, s'.1 (l + 2) j = if j = n then S else s.1 (l + 2) j) → (∀ j, s'.1 (l + 3) j = if j = n then -1 else s.1 (l + 3) j) → (∀ j, s'.1 (l + 4) j = if j = n then 0 else s.1 (l + 4) j) → (∀ j, s'.1 (l + 5) j = if j = n then 0 else s.1 (l + 5) j) → K (some (nI n)) s') : tT (yY L xs) d 13 0 [.ref l, .int g, .int S, .null] [] s K := by
  obtain ⟨k1, ⟨r0, r1, r2, r3, r4, r5, r6⟩, a1, a2, a3, a4, a5, a6, a7⟩ := hk
  refine b_13_0 ⟨k1, ?_⟩
  rw [h8]
  by_cases hl : n < 300
  · rw [if_pos (by rw [nI_lit 300, nJ_lt (by omega) (by omega)]; exact hl), nI_cl (show n < 2147483648 by omega), ← nI_succ n]
    have hin : inR (nI n) 300 := inR_nI hl (by decide)
    refine ⟨k1, k1, k1, l + 1, ⟨k1, r0⟩, 300, ⟨a1, hin⟩, l + 2, ⟨k1, r1⟩, 300, ⟨a2, hin⟩, l + 3, ⟨k1, r2⟩, 300, ⟨a3, hin⟩, l + 4, ⟨k1, r3⟩, 300, ⟨a4, hin⟩, l + 5, ⟨k1, r4⟩, 300, ⟨a5, hin⟩, ?_⟩
    refine h1 hl _ rfl (fun z hz => funext fun j => ?_) ?_ (fun j hj => ?_) (fun j => ?_) (fun j => ?_) (fun j => ?_) (fun j => ?_) (fun j => ?_)
    · rw [pV_1, if_neg (by omega), pV_1, if_neg (by omega), pV_1, if_neg (by omega), pV_1, if_neg (by omega), pV_1, if_neg (by omega), pV_1, if_neg (by omega)]
    · rw [pV_1, if_neg (by omega), pV_1, if_neg (by omega), pV_1, if_neg (by omega), pV_1, if_neg (by omega), pV_1, if_neg (by omega), pV_1, if_pos ⟨rfl, rfl⟩]
    · rw [pV_1, if_neg (by omega), pV_1, if_neg (by omega), pV_1, if_neg (by omega), pV_1, if_neg (by omega), pV_1, if_neg (by omega), pV_1, if_neg (by omega)]
    · rw [pV_1, if_neg (by omega), pV_1, if_neg (by omega), pV_1, if_neg (by omega), pV_1, if_neg (by omega), pV_1]
      by_cases e : j = n
      · rw [if_pos ⟨rfl, e⟩, if_pos e]
      · rw [if_neg (by omega), if_neg e, pV_1, if_neg (by omega)]
    · rw [pV_1, if_neg (by omega), pV_1, if_neg (by omega), pV_1, if_neg (by omega), pV_1]
      by_cases e : j = n
      · rw [if_pos ⟨rfl, e⟩, if_pos e]
      · rw [if_neg (by omega), if_neg e, pV_1, if_neg (by omega), pV_1, if_neg (by omega)]
    · rw [pV_1, if_neg (by omega), pV_1, if_neg (by omega), pV_1]
      by_cases e : j = n
      · rw [if_pos ⟨rfl, e⟩, if_pos e]
      · rw [if_neg (by omega), if_neg e, pV_1, if_neg (by omega), pV_1, if_neg (by omega), pV_1, if_neg (by omega)]
    · rw [pV_1, if_neg (by omega), pV_1]
      by_cases e : j = n
      · rw [if_pos ⟨rfl, e⟩, if_pos e]
      · rw [if_neg (by omega), if_neg e, pV_1, if_neg (by omega), pV_1, if_neg (by omega), pV_1, if_neg (by omega), pV_1, if_neg (by omega)]
    · rw [pV_1]
      by_cases e : j = n
      · rw [if_pos ⟨rfl, e⟩, if_pos e]
      · rw [if_neg (by omega), if_neg e, pV_1, if_neg (by omega), pV_1, if_neg (by omega), pV_1, if_neg (by omega), pV_1, if_neg (by omega), pV_1, if_neg (by omega)]
  · rw [if_neg (by rw [nI_lit 300, nJ_lt (by omega) (by omega)]; exact hl)]
    exact h0 (by omega)
theorem c_comeTo {g x : Nat} {S par : Int32} {dp : Nat} (hS : sK L xs s l c0 c1 X0 X1) (h : sc s l n0 C E) (hC : cI n0 C E) (hn : n0 ≤ 31) (hg : g < n0) (hpar : (par = -1 ∧ dp = 0) ∨ ∃ p c', par = nI p ∧ p < C.length ∧ C[p]? = some c' ∧ dp = c'.2.2.2.2 + 1) (h0 : C.length = 300 → K (some (-1)) s)
    (h1 : C.length < 300 → ∀ s', fC l s s' → s'.1 l 11 = s.1 l 11 → s'.1 (l + 7) = s.1 (l + 7) → s'.1 (l + 6) = s.1 (l + 6) → (∀ k, k < C.length → s'.1 (l + 4) k = s.1 (l + 4) k) → sc s' l n0 (C ++ [(g, S, par, nI x, dp)]) E → K (some (nI C.length)) s') : tT (yY L xs) (d + 1) 36 0 [.ref 47, .int (nI g), .int S, .int par, .int (nI x), .null] [] s K := by
  obtain ⟨hP, hl, hk, ⟨r7, r8, r9⟩, -⟩ := hS
  obtain ⟨⟨m8, m9, m10⟩, hc, he, hf, hla⟩ := h
  have hlen := hC.1
  have hlg := cI_lg hC
  have hEl := hC.2.1
  refine b_36_0 ⟨l, ⟨so_47, r9⟩, hk.1, c_addLine hk m8 hlen (fun e => ?_) (fun hlt s1 t2 to t8 tj t1 t22 t3 t4 t5 => ?_)⟩
  · rw [rt_some]
    refine b_36_9 ?_
    rw [if_neg (fun q => q rfl)]
    exact h0 e
  rw [rt_some]
  have hP1 : rP s1.2 := by rw [t2]; exact hP
  have hin : inR (nI C.length) 300 := inR_nI hlt (by decide)
  refine b_36_9 ?_
  rw [if_pos (nn1 (by omega))]
  refine ⟨48, ⟨so_47, rp_47_0 hP1⟩, 300, ⟨sa_48, hin⟩, 49, ⟨so_47, rp_47_1 hP1⟩, 300, ⟨sa_49, hin⟩, 50, ⟨so_47, rp_47_2 hP1⟩, ?_⟩
  rw [nI_cl (show C.length < 2147483648 by omega)]
  have u48 : ∀ j, (pV (pV s1 48 C.length par) 49 C.length (nI x)).1 48 j = if j = C.length then par else s.1 48 j := fun j => by
    rw [pV_1, if_neg (by omega), pV_1]
    by_cases e : j = C.length
    · rw [if_pos ⟨rfl, e⟩, if_pos e]
    · rw [if_neg (by omega), if_neg e, to 48 (by omega)]
  have u49 : ∀ j, (pV (pV s1 48 C.length par) 49 C.length (nI x)).1 49 j = if j = C.length then nI x else s.1 49 j := fun j => by
    rw [pV_1]
    by_cases e : j = C.length
    · rw [if_pos ⟨rfl, e⟩, if_pos e]
    · rw [if_neg (by omega), if_neg e, pV_1, if_neg (by omega), to 49 (by omega)]
  have uo : ∀ z, z ≠ 48 → z ≠ 49 → (pV (pV s1 48 C.length par) 49 C.length (nI x)).1 z = s1.1 z := fun z a b => funext fun j => by rw [pV_1, if_neg (by omega), pV_1, if_neg (by omega)]
  have u2 : (pV (pV s1 48 C.length par) 49 C.length (nI x)).2 = s.2 := t2
  generalize pV (pV s1 48 C.length par) 49 C.length (nI x) = s2 at u48 u49 uo u2 ⊢
  have hP2 : rP s2.2 := by rw [u2]; exact hP
  have hdp : dp ≤ 300 := by
    rcases hpar with q | ⟨p, c', q1, q2, q3, q4⟩
    · omega
    · have := (hC.2.2.1 p c' q3).2.1; omega
  have go : tT (yY L xs) (d + 1) 36 59 [.ref 47, .int (nI g), .int S, .int par, .int (nI x), .int (nI C.length)] [.int (nI dp), .int (nI C.length), .ref 50] s2 K := by
    refine b_36_59 ⟨300, ⟨sa_50, hin⟩, l, ⟨so_47, by rw [pV_2, u2]; exact r9⟩, l, ⟨so_47, by rw [pV_2, u2]; exact r9⟩, hk.1, 50, ⟨so_47, rp_47_2 hP2⟩, 300, ⟨sa_50, hin⟩, hk.1, 53, ⟨so_47, rp_47_5 hP2⟩, 300, ⟨sa_53, hin⟩, 51, ⟨so_47, rp_47_3 hP2⟩, 31, ⟨sa_51, inR_nI (by omega) (by decide)⟩, ?_⟩
    rw [nI_cl (show C.length < 2147483648 by omega), nI_cl (show g < 2147483648 by omega)]
    have v50 : (pV s2 50 C.length (nI dp)).1 50 C.length = nI dp := by rw [pV_1, if_pos ⟨rfl, rfl⟩]
    have v10 : (pV s2 50 C.length (nI dp)).1 l 10 = nI (lgC C) := by rw [pV_1, if_neg (by omega), uo l (by omega) (by omega), tj 10 (by decide)]; exact m10
    have emax : (if nI (lgC C) < nI dp then nI dp else nI (lgC C)) = nI (max (lgC C) dp) := by
      by_cases e : lgC C < dp
      · rw [if_pos (by rw [nJ_lt (by omega) (by omega)]; exact e), show max (lgC C) dp = dp by omega]
      · rw [if_neg (by rw [nJ_lt (by omega) (by omega)]; exact e), show max (lgC C) dp = lgC C by omega]
    rw [v50, v10, emax]
    have w50 : ∀ j, (pV (pV (pV s2 50 C.length (nI dp)) l 10 (nI (max (lgC C) dp))) 53 C.length (-1)).1 50 j = if j = C.length then nI dp else s.1 50 j := fun j => by
      rw [pV_1, if_neg (by omega), pV_1, if_neg (by omega), pV_1]
      by_cases e : j = C.length
      · rw [if_pos ⟨rfl, e⟩, if_pos e]
      · rw [if_neg (by omega), if_neg e, uo 50 (by decide) (by decide), to 50 (by omega)]
    have w53 : ∀ j, (pV (pV (pV s2 50 C.length (nI dp)) l 10 (nI (max (lgC C) dp))) 53 C.length (-1)).1 53 j = if j = C.length then -1 else s.1 53 j := fun j => by
      rw [pV_1]
      by_cases e : j = C.length
      · rw [if_pos ⟨rfl, e⟩, if_pos e]
      · rw [if_neg (by omega), if_neg e, pV_1, if_neg (by omega), pV_1, if_neg (by omega), uo 53 (by decide) (by decide), to 53 (by omega)]
    have wl : ∀ j, (pV (pV (pV s2 50 C.length (nI dp)) l 10 (nI (max (lgC C) dp))) 53 C.length (-1)).1 l j = if j = 10 then nI (max (lgC C) dp) else s1.1 l j := fun j => by
      rw [pV_1, if_neg (by omega), pV_1]
      by_cases e : j = 10
      · rw [if_pos ⟨rfl, e⟩, if_pos e]
      · rw [if_neg (by omega), if_neg e, pV_1, if_neg (by omega), uo l (by omega) (by omega)]
    have wo : ∀ z, z ≠ l → z ≠ 50 → z ≠ 53 → (pV (pV (pV s2 50 C.length (nI dp)) l 10 (nI (max (lgC C) dp))) 53 C.length (-1)).1 z = s2.1 z := fun z a b c => funext fun j => by rw [pV_1, if_neg (by omega), pV_1, if_neg (by omega), pV_1, if_neg (by omega)]
    have w2 : (pV (pV (pV s2 50 C.length (nI dp)) l 10 (nI (max (lgC C) dp))) 53 C.length (-1)).2 = s.2 := u2
    generalize pV (pV (pV s2 50 C.length (nI dp)) l 10 (nI (max (lgC C) dp))) 53 C.length (-1) = s3 at w50 w53 wl wo w2 ⊢
    have hP3 : rP s3.2 := by rw [w2]; exact hP
    have e51 : s3.1 51 g = oI (nx C g 0) := by rw [wo 51 (by omega) (by decide) (by decide), uo 51 (by decide) (by decide), to 51 (by omega)]; exact hf g hg
    rw [e51]
    -- the end: what all cells hold
    have fin : ∀ s4 : sT, s4.2 = s3.2 → (∀ z, z ≠ 51 → z ≠ 52 → z ≠ 53 → s4.1 z = s3.1 z) → (∀ g', g' < n0 → s4.1 51 g' = oI (nx (C ++ [(g, S, par, nI x, dp)]) g' 0)) → (∀ k c, (C ++ [(g, S, par, nI x, dp)])[k]? = some c → s4.1 53 k = oI (nx (C ++ [(g, S, par, nI x, dp)]) c.1 (k + 1))) → (∀ j, j ≠ g → s4.1 52 j = s.1 52 j) → s4.1 52 g = nI C.length → K (some (nI C.length)) s4 := fun s4 f2 fo f51 f53 f52 f52g => by
      have o : ∀ z, z ≠ l → z ≠ 48 → z ≠ 49 → z ≠ 50 → z ≠ 51 → z ≠ 52 → z ≠ 53 → s4.1 z = s1.1 z := fun z a1 a2 a3 a4 a5 a6 a7 => by rw [fo z a5 a6 a7, wo z a1 a4 a7, uo z a2 a3]
      have ol : ∀ j, s4.1 l j = if j = 10 then nI (max (lgC C) dp) else s1.1 l j := fun j => by rw [fo l (by omega) (by omega) (by omega), wl]
      have olen : (C ++ [(g, S, par, nI x, dp)]).length = C.length + 1 := by rw [List.length_append]; rfl
      have hps : ps E (C.length + 1) = ps E C.length := by rw [ps_s, dg_out hEl]; rfl
      refine h1 hlt s4 ⟨f2.trans w2, fun z a b => ?_⟩ ?_ ?_ ?_ (fun k hk => ?_) ⟨⟨?_, ?_, ?_⟩, fun k c hkc => ?_, fun k hk => ?_, f51, fun g' m hg' hm => ?_⟩
      · rw [o z (by omega) (by omega) (by omega) (by omega) (by omega) (by omega) (by omega)]; exact to z (by omega)
      · rw [ol, if_neg (by decide)]; exact tj 11 (by decide)
      · rw [o _ (by omega) (by omega) (by omega) (by omega) (by omega) (by omega) (by omega)]; exact to _ (by omega)
      · rw [o _ (by omega) (by omega) (by omega) (by omega) (by omega) (by omega) (by omega)]; exact to _ (by omega)
      · rw [o _ (by omega) (by omega) (by omega) (by omega) (by omega) (by omega) (by omega), t4, if_neg (by omega)]
      · rw [ol, if_neg (by decide), olen]; exact t8
      · rw [ol, if_neg (by decide), olen, hps, tj 9 (by decide)]; exact m9
      · rw [ol, if_pos rfl, lgC_app]
      · have e53 := f53 k c hkc
        rcases app_old hkc with ⟨hk, hy⟩ | ⟨rfl, rfl⟩
        · obtain ⟨g1, g2, g3, g4, g5, -⟩ := hc k c hy
          refine ⟨?_, ?_, ?_, ?_, ?_, e53⟩
          · rw [o _ (by omega) (by omega) (by omega) (by omega) (by omega) (by omega) (by omega), t1, if_neg (by omega)]; exact g1
          · rw [o _ (by omega) (by omega) (by omega) (by omega) (by omega) (by omega) (by omega), t22, if_neg (by omega)]; exact g2
          · rw [fo 48 (by decide) (by decide) (by decide), wo 48 (by omega) (by decide) (by decide), u48, if_neg (by omega)]; exact g3
          · rw [fo 49 (by decide) (by decide) (by decide), wo 49 (by omega) (by decide) (by decide), u49, if_neg (by omega)]; exact g4
          · rw [fo 50 (by decide) (by decide) (by decide), w50, if_neg (by omega)]; exact g5
        · refine ⟨?_, ?_, ?_, ?_, ?_, e53⟩
          · rw [o _ (by omega) (by omega) (by omega) (by omega) (by omega) (by omega) (by omega), t1, if_pos rfl]
          · rw [o _ (by omega) (by omega) (by omega) (by omega) (by omega) (by omega) (by omega), t22, if_pos rfl]
          · rw [fo 48 (by decide) (by decide) (by decide), wo 48 (by omega) (by decide) (by decide), u48, if_pos rfl]
          · rw [fo 49 (by decide) (by decide) (by decide), wo 49 (by omega) (by decide) (by decide), u49, if_pos rfl]
          · rw [fo 50 (by decide) (by decide) (by decide), w50, if_pos rfl]
      · rw [olen] at hk
        rw [o (l + 3) (by omega) (by omega) (by omega) (by omega) (by omega) (by omega) (by omega), o (l + 4) (by omega) (by omega) (by omega) (by omega) (by omega) (by omega) (by omega), o (l + 5) (by omega) (by omega) (by omega) (by omega) (by omega) (by omega) (by omega), o (l + 6) (by omega) (by omega) (by omega) (by omega) (by omega) (by omega) (by omega), t3, t4, t5, to (l + 6) (by omega)]
        by_cases ek : k = C.length
        · subst ek
          rw [dg_out hEl, if_pos rfl, if_pos rfl]
          exact ⟨rfl, rfl, fun q => absurd q (Nat.lt_irrefl _), fun j p q => by cases q⟩
        · rw [if_neg ek, if_neg ek, if_neg ek]
          exact he k (by omega)
      · by_cases eg : g' = g
        · subst eg
          obtain ⟨q1, q2, q3⟩ := hm
          rw [olen] at q1
          by_cases em : m = C.length
          · rw [em]; exact f52g
          · rw [nx_app (by omega)] at q3
            cases hnx : nx C g' (m + 1) with
            | some j => rw [hnx] at q3; cases q3
            | none => rw [hnx] at q3; simp only at q3; rw [if_pos trivial] at q3; cases q3
        · obtain ⟨q1, q2, q3⟩ := hm
          rw [olen] at q1
          have em : m ≠ C.length := fun e => by subst e; rw [getD_new] at q2; exact eg q2.symm
          rw [nx_app (by omega)] at q3
          rw [f52 g' eg]
          refine hla g' m hg' ⟨by omega, by rw [getD_app (by omega)] at q2; exact q2, ?_⟩
          cases hnx : nx C g' (m + 1) with
          | some j => rw [hnx] at q3; cases q3
          | none => rfl
    have o52 : ∀ j, s3.1 52 j = s.1 52 j := fun j => by rw [wo 52 (by omega) (by decide) (by decide), uo 52 (by decide) (by decide), to 52 (by omega)]
    have o51 : ∀ j, s3.1 51 j = s.1 51 j := fun j => by rw [wo 51 (by omega) (by decide) (by decide), uo 51 (by decide) (by decide), to 51 (by omega)]
    have olen : (C ++ [(g, S, par, nI x, dp)]).length = C.length + 1 := by rw [List.length_append]; rfl
    cases hnx : nx C g 0 with
    | none =>
      rw [if_neg (fun q => q rfl)]
      refine ⟨51, ⟨so_47, rp_47_3 hP3⟩, 31, ⟨sa_51, inR_nI (by omega) (by decide)⟩, b_36_126 ⟨52, ⟨so_47, rp_47_4 hP3⟩, 31, ⟨sa_52, inR_nI (by omega) (by decide)⟩, ?_⟩⟩
      rw [nI_cl (show g < 2147483648 by omega)]
      refine fin _ rfl (fun z a b c => funext fun j => by rw [pV_1, if_neg (by omega), pV_1, if_neg (by omega)]) (fun g' hg' => ?_) (fun k c hkc => ?_) (fun j hj => ?_) ?_
      · rw [pV_1, if_neg (by omega), pV_1, nx_app (Nat.zero_le _)]
        by_cases e : g' = g
        · subst e; rw [if_pos ⟨rfl, rfl⟩, hnx]; simp only; rw [if_pos trivial]; rfl
        · rw [if_neg (by omega), o51, hf g' hg']
          cases nx C g' 0 with
          | some j => rfl
          | none => simp only; rw [if_neg (fun q => e q.symm)]
      · rw [pV_1, if_neg (by omega), pV_1, if_neg (by omega), w53]
        rcases app_old hkc with ⟨hk, hy⟩ | ⟨rfl, rfl⟩
        · rw [if_neg (by omega), nx_app (by omega), (hc k c hy).2.2.2.2.2]
          have : ¬ g = c.1 := fun e => nx_none hnx k c (Nat.zero_le _) hy e.symm
          cases nx C c.1 (k + 1) with
          | some j => rfl
          | none => simp only; rw [if_neg this]
        · rw [if_pos rfl, nx_out (by rw [olen]; omega)]; rfl
      · rw [pV_1, if_neg (by omega), pV_1, if_neg (by omega)]; exact o52 j
      · rw [pV_1, if_pos ⟨rfl, rfl⟩]
    | some j0 =>
      obtain ⟨m, hm⟩ := lst_ex C.length 0 j0 rfl hnx
      have e52 : s3.1 52 g = nI m := by rw [o52]; exact hla g m hg hm
      have hj0 := nx_lt hnx
      have hml : m < C.length := hm.1
      rw [if_pos (show ¬ oI (some j0) = -1 from nn1 (by omega))]
      refine ⟨53, ⟨so_47, rp_47_5 hP3⟩, 52, ⟨so_47, rp_47_4 hP3⟩, 31, ⟨sa_52, inR_nI (by omega) (by decide)⟩, 300, ?_⟩
      rw [e52, nI_cl (show m < 2147483648 by omega)]
      refine ⟨⟨sa_53, inR_nI (by omega) (by decide)⟩, b_36_126 ⟨52, ⟨so_47, rp_47_4 hP3⟩, 31, ⟨sa_52, inR_nI (by omega) (by decide)⟩, ?_⟩⟩
      rw [nI_cl (show g < 2147483648 by omega)]
      refine fin _ rfl (fun z a b c => funext fun j => by rw [pV_1, if_neg (by omega), pV_1, if_neg (by omega)]) (fun g' hg' => ?_) (fun k c hkc => ?_) (fun j hj => ?_) ?_
      · rw [pV_1, if_neg (by omega), pV_1, if_neg (by omega), nx_app (Nat.zero_le _), o51, hf g' hg']
        by_cases e : g' = g
        · subst e; rw [hnx]
        · cases nx C g' 0 with
          | some j => rfl
          | none => simp only; rw [if_neg (fun q => e q.symm)]
      · rw [pV_1, if_neg (by omega), pV_1]
        rcases app_old hkc with ⟨hk, hy⟩ | ⟨rfl, rfl⟩
        · rw [nx_app (by omega)]
          by_cases ekm : k = m
          · subst ekm
            have ec : c.1 = g := by rw [← getD_some (d := cm0) hy]; exact hm.2.1
            rw [if_pos ⟨rfl, rfl⟩, ec, hm.2.2]; simp only; first | (rw [if_pos rfl]; rfl) | (rw [if_pos trivial]; rfl)
          · rw [if_neg (by omega), w53, if_neg (by omega), (hc k c hy).2.2.2.2.2]
            cases hnk : nx C c.1 (k + 1) with
            | some j => rfl
            | none =>
              simp only
              rw [if_neg (fun q => ?_)]
              have hmy := List.getElem?_eq_getElem hml
              have hmg : (C[m]).1 = g := by rw [← getD_some (d := cm0) hmy]; exact hm.2.1
              by_cases hkm : k < m
              · exact nx_none hnk m _ (by omega) hmy (hmg.trans q)
              · exact nx_none hm.2.2 k c (by omega) hy q.symm
        · rw [if_neg (by omega), w53, if_pos rfl, nx_out (by rw [olen]; omega)]; rfl
      · rw [pV_1, if_neg (by omega), pV_1, if_neg (by omega)]; exact o52 j
      · rw [pV_1, if_pos ⟨rfl, rfl⟩]
  rcases hpar with ⟨rfl, rfl⟩ | ⟨p, c', rfl, q2, q3, rfl⟩
  · rw [if_neg (fun q => q rfl)]
    exact go
  · rw [if_pos (nn1 (by omega))]
    refine ⟨50, ⟨so_47, rp_47_2 hP2⟩, 300, ⟨sa_50, inR_nI (by omega) (by decide)⟩, ?_⟩
    rw [nI_cl (show p < 2147483648 by omega), uo 50 (by decide) (by decide), to 50 (by omega), (hc p c' q3).2.2.2.2.1, ← nI_succ]
    exact go
end CT
