section RB
variable {L : Nat} {xs : Nat → Int32} {d : Nat} {s : sT} {K : Option Int32 → sT → Prop}
theorem r_adds {N p n how : Nat} {js : List Nat} {l : List Cond} (hM : rM s.2) (hN : N < 1500) (hp : p + n ≤ 24000) (hn : n ≤ 400) (hh : how = 3 ∨ how = 4 ∨ how = 5) (h12 : s.1 186 12 = nI N) (h13 : s.1 186 13 = nI p) (hjN : ∀ i, i < n → js.getD i 0 < N) (hrow : ∀ i, i < n → s.1 200 i = nI (js.getD i 0))
    (hc : ∀ i, i < n → s.1 193 (js.getD i 0) = nI (shN (l.getD i S0)) ∧ s.1 194 (js.getD i 0) = nI (ns (l.getD i S0)) ∧ s.1 196 (js.getD i 0) = bz (full (l.getD i S0))) (hb : ∀ i, i ≤ n → acS how l i < 100000 ∧ acD l i < 100000) (hb2 : ∀ i, i < n → shN (l.getD i S0) < 100000 ∧ ns (l.getD i S0) < 100000)
    (h : ∀ s3, ad0 s s3 N p n how (p + n) n 3 js → s3.1 193 N = nI (if how = 5 then 0 else acS how l n) → s3.1 194 N = nI (acD l n + if how = 5 then 1 else 0) → s3.1 196 N = bz (acF how l n) → K (some (nI N)) (pV s3 186 12 (nI (N + 1)))) : tT (yY L xs) (d + 1) 154 0 [.ref 186, .int (nI how), .int (nI n), .null, .null] [] s K := by
  have ck : (nI N).toNatClampNeg = N := nI_cl (by omega)
  have ink : ∀ {m}, m = 1500 → inR (nI N) m := fun e => inR_nI (by omega) (by omega)
  have mO : ∀ {s1 : sT}, s1.2 = s.2 → rM s1.2 := fun e => by rw [e]; exact hM
  have fin : ∀ s3, ad0 s s3 N p n how (p + n) n 3 js → s3.1 193 N = nI (if how = 5 then 0 else acS how l n) → s3.1 194 N = nI (acD l n + if how = 5 then 1 else 0) → s3.1 196 N = bz (acF how l n) → ∀ x4, tT (yY L xs) (d + 1) 154 213 [.ref 186, .int (nI how), .int (nI n), .int (nI N), .int x4] [] s3 K := by
    intro s3 h1 h2 h3 h4 x4
    refine b_154_213 ⟨so_186, so_186, ?_⟩
    rw [h1.2.2.1 12 (by decide), h12, ← nI_succ]
    exact h s3 h1 h2 h3 h4
  have loop3 : ∀ q i s1, q + i = n → ad0 s s1 N p n how (p + n) n 3 js → s1.1 193 N = nI (acS how l i) → s1.1 194 N = nI (acD l i) → s1.1 196 N = bz (acF how l i) → tT (yY L xs) (d + 1) 154 160 [.ref 186, .int (nI how), .int (nI n), .int (nI N), .int (nI i)] [] s1 K := by
    intro q
    induction q with
    | zero =>
      intro i s1 hi h1 h2 h3 h4
      have e : i = n := by omega
      subst e
      refine b_154_160 ?_
      rw [if_pos (by rw [nJ_le (by omega) (by omega)]; omega)]
      refine b_154_191 ?_
      by_cases h5 : how = 5
      · rw [if_neg (by rw [h5]; decide)]
        refine ⟨193, ⟨so_186, rm_186_8 (mO h1.1)⟩, 1500, ⟨sa_193, ink rfl⟩, 194, ⟨so_186, rm_186_9 (mO h1.1)⟩, 1500, ⟨sa_194, ink rfl⟩, 1500, ⟨sa_194, ink rfl⟩, ?_⟩
        rw [ck, show (pV s1 193 N 0).1 194 N = nI (acD l i) from by rw [pV_1, if_neg (by omega), h3], ← nI_succ]
        refine fin _ (ad0_own (ad0_own h1 (Or.inl rfl)) (Or.inr (Or.inl rfl))) ?_ ?_ ?_ _
        · rw [if_pos h5, pV_1, if_neg (by omega), pV_1, if_pos ⟨rfl, rfl⟩]; rfl
        · rw [if_pos h5, pV_1, if_pos ⟨rfl, rfl⟩]
        · rw [pV_1, if_neg (by omega), pV_1, if_neg (by omega), h4]
      · rw [if_pos (by rcases hh with rfl | rfl | rfl <;> first | decide | exact absurd rfl h5)]
        exact fin s1 h1 (by rw [if_neg h5]; exact h2) (by rw [if_neg h5]; exact h3) h4 _
    | succ q ih =>
      intro i s1 hi h1 h2 h3 h4
      have hin : i < n := by omega
      refine b_154_160 ?_
      rw [if_neg (by rw [nJ_le (by omega) (by omega)]; omega), if_neg (by rcases hh with rfl | rfl | rfl <;> decide)]
      refine ⟨200, ⟨so_186, rm_186_18 (mO h1.1)⟩, 400, ?_⟩
      rw [nI_cl (show i < 2147483648 by omega), h1.2.1 200 (by decide) (Or.inr (by decide)) (by decide), hrow i hin]
      have hj := hjN i hin
      have hb1 := hb i (by omega)
      have hb3 := hb2 i hin
      have hci := hc i hin
      refine ⟨⟨sa_200, inR_nI (by omega) (by decide)⟩, so_186, ?_⟩
      refine r_joins (fj := full (l.getD i S0)) (mO h1.1) hN (by omega) (by omega) (by omega) hb1.2 hb3.2 hb1.1 hb3.1 hh h1.2.2.2.2.2.1.1 h3 ?_ h2 ?_ h4 ?_ (fun s2 hJ => ?_)
      · rw [h1.2.2.2.2.1 194 _ (by decide) (by decide) (by decide) (by omega)]; exact hci.2.1
      · rw [h1.2.2.2.2.1 193 _ (by decide) (by decide) (by decide) (by omega)]; exact hci.1
      · rw [h1.2.2.2.2.1 196 _ (by decide) (by decide) (by decide) (by omega)]; exact hci.2.2
      · rw [rt_none]
        refine b_154_185 ?_
        have := ih (i + 1) s2 (by omega) (ad0_join h1 hJ) hJ.2.2.2.1 hJ.2.2.2.2.1 hJ.2.2.2.2.2
        rw [nI_succ] at this
        exact this
  have loop2 : ∀ q w s1, q + w = 3 → ad0 s s1 N p n how (p + n) n w js → s1.1 193 N = nI 0 → s1.1 194 N = nI 0 → s1.1 196 N = bz (acF how l 0) → tT (yY L xs) (d + 1) 154 133 [.ref 186, .int (nI how), .int (nI n), .int (nI N), .int (nI w)] [] s1 K := by
    intro q
    induction q with
    | zero =>
      intro w s1 hw h1 h2 h3 h4
      have e : w = 3 := by omega
      subst e
      refine b_154_133 ?_
      rw [if_pos (by decide)]
      exact loop3 n 0 s1 rfl h1 h2 h3 h4
    | succ q ih =>
      intro w s1 hw h1 h2 h3 h4
      refine b_154_133 ?_
      rw [if_neg (by rw [nI_lit 3, nJ_le (by omega) (by omega)]; omega)]
      refine ⟨198, ⟨so_186, rm_186_15 (mO h1.1)⟩, 4500, ?_⟩
      rw [nI_lit 3, nJ_mul, nJ_add, nI_cl (show 3 * N + w < 2147483648 by omega)]
      refine ⟨⟨sa_198, inR_nI (by omega) (by decide)⟩, ?_⟩
      have := ih (w + 1) (pV s1 198 (3 * N + w) (-1)) (by omega) (ad0_mark h1 (by omega)) (by rw [pV_1, if_neg (by omega), h2]) (by rw [pV_1, if_neg (by omega), h3]) (by rw [pV_1, if_neg (by omega), h4])
      rw [nI_succ] at this
      exact this
  have g98 : ∀ s1 x4, ad0 s s1 N p n how (p + n) n 0 js → tT (yY L xs) (d + 1) 154 98 [.ref 186, .int (nI how), .int (nI n), .int (nI N), .int x4] [.int (bz (acF how l 0)), .int (nI N), .ref 196] s1 K := by
    intro s1 x4 h1
    refine b_154_98 ⟨1500, ⟨sa_196, ink rfl, bz_01 _⟩, 193, ⟨so_186, rm_186_8 (mO h1.1)⟩, ?_⟩
    rw [if_pos (by rcases hh with rfl | rfl | rfl <;> decide), if_pos (by rcases hh with rfl | rfl | rfl <;> decide), ck]
    refine b_154_122 ⟨1500, ⟨sa_193, ink rfl⟩, 194, ⟨so_186, rm_186_9 (mO h1.1)⟩, 1500, ⟨sa_194, ink rfl⟩, ?_⟩
    rw [ck]
    refine loop2 3 0 _ rfl (ad0_own (ad0_own (ad0_own h1 (Or.inr (Or.inr rfl))) (Or.inl rfl)) (Or.inr (Or.inl rfl))) ?_ ?_ ?_
    · rw [pV_1, if_neg (by omega), pV_1, if_pos ⟨rfl, rfl⟩]; rfl
    · rw [pV_1, if_pos ⟨rfl, rfl⟩]; rfl
    · rw [pV_1, if_neg (by omega), pV_1, if_neg (by omega), pV_1, if_pos ⟨rfl, rfl⟩]
  have loop1 : ∀ q i s1, q + i = n → ad0 s s1 N p n how p i 0 js → tT (yY L xs) (d + 1) 154 32 [.ref 186, .int (nI how), .int (nI n), .int (nI N), .int (nI i)] [] s1 K := by
    intro q
    induction q with
    | zero =>
      intro i s1 hi h1
      have e : i = n := by omega
      subst e
      refine b_154_32 ?_
      rw [if_pos (by rw [nJ_le (by omega) (by omega)]; omega)]
      refine ⟨so_186, so_186, 196, ⟨so_186, rm_186_11 (mO h1.1)⟩, ?_⟩
      rw [h1.2.2.2.1, nJ_add]
      have g := g98 (pV s1 186 13 (nI (p + i))) (nI i) (ad0_pooled h1)
      rcases hh with rfl | rfl | rfl
      · rw [if_neg (by decide), if_neg (by decide), if_pos (by decide)]
        exact g
      · rw [if_neg (by decide), if_neg (by decide), if_neg (by decide)]
        exact b_154_93 g
      · rw [if_neg (by decide), if_pos (by decide)]
        exact b_154_93 g
    | succ q ih =>
      intro i s1 hi h1
      refine b_154_32 ?_
      rw [if_neg (by rw [nJ_le (by omega) (by omega)]; omega)]
      refine ⟨195, ⟨so_186, rm_186_10 (mO h1.1)⟩, so_186, 200, ⟨so_186, rm_186_18 (mO h1.1)⟩, 400, ?_⟩
      rw [h1.2.2.2.1, nJ_add, nI_cl (show i < 2147483648 by omega), nI_cl (show p + i < 2147483648 by omega), h1.2.1 200 (by decide) (Or.inr (by decide)) (by decide), hrow i (by omega)]
      refine ⟨⟨sa_200, inR_nI (by omega) (by decide)⟩, 24000, ⟨sa_195, inR_nI (by omega) (by decide)⟩, ?_⟩
      have := ih (i + 1) _ (by omega) (ad0_pool h1 (by omega))
      rw [nI_succ] at this
      exact this
  refine b_154_0 ⟨so_186, 190, ⟨so_186, rm_186_5 hM⟩, 1500, ?_⟩
  rw [h12, ck]
  refine ⟨⟨sa_190, ink rfl⟩, 191, ⟨so_186, rm_186_6 hM⟩, so_186, 1500, ⟨sa_191, ink rfl⟩, 192, ⟨so_186, rm_186_7 hM⟩, 1500, ⟨sa_192, ink rfl⟩, ?_⟩
  rw [show (pV s 190 N (nI how)).1 186 13 = nI p from by rw [pV_1, if_neg (by omega), h13]]
  refine loop1 n 0 _ rfl ⟨rfl, fun z h1 h2 h3 => ?_, fun z hz => ?_, ?_, fun z t h1 h2 h3 h4 => ?_, ⟨?_, ?_, ?_⟩, fun t ht => ?_, fun i hi => absurd hi (Nat.not_lt_zero _), fun t ht => ?_, fun x hx => absurd hx (Nat.not_lt_zero _)⟩
  · funext t; rw [pV_1, if_neg (by omega), pV_1, if_neg (by omega), pV_1, if_neg (by omega)]
  · rw [pV_1, if_neg (by omega), pV_1, if_neg (by omega), pV_1, if_neg (by omega)]
  · rw [pV_1, if_neg (by omega), pV_1, if_neg (by omega), pV_1, if_neg (by omega), h13]
  · rw [pV_1, if_neg (by omega), pV_1, if_neg (by omega), pV_1, if_neg (by omega)]
  · rw [pV_1, if_neg (by omega), pV_1, if_neg (by omega), pV_1, if_pos ⟨rfl, rfl⟩]
  · rw [pV_1, if_neg (by omega), pV_1, if_pos ⟨rfl, rfl⟩]
  · rw [pV_1, if_pos ⟨rfl, rfl⟩]
  · rw [pV_1, if_neg (by omega), pV_1, if_neg (by omega), pV_1, if_neg (by omega)]
  · rw [pV_1, if_neg (by omega), pV_1, if_neg (by omega), pV_1, if_neg (by omega)]
end RB
