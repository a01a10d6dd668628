/-! THE TABLE CLEARED: 0, 1, a, b, c -/
section CL
variable {L : Nat} {xs : Nat → Int32} {d : Nat} {s : sT} {K : Option Int32 → sT → Prop}
theorem r_adds0 {N p n how : Nat} {js : List Nat} (hM : rM s.2) (hN : N < 1500) (hp : p + n ≤ 24000) (hn : n ≤ 400) (hh : how = 0 ∨ how = 1 ∨ how = 2) (h12 : s.1 186 12 = nI N) (h13 : s.1 186 13 = nI p) (hrow : ∀ i, i < n → s.1 200 i = nI (js.getD i 0))
    (h : ∀ s3, ad0 s s3 N p n how (p + n) n 3 js → s3.1 193 N = (if how = 0 then -1 else if how = 2 then 1 else 0) → s3.1 194 N = nI 0 → s3.1 196 N = bz (decide (how = 1)) → K (some (nI N)) (pV s3 186 12 (nI (N + 1)))) : tT (yY L xs) (d + 1) 154 0 [.ref 186, .int (nI how), .int (nI n), .null, .null] [] s K := by
  have ck : (nI N).toNatClampNeg = N := nI_cl (by omega)
  have ink : ∀ {m}, m = 1500 → inR (nI N) m := fun e => inR_nI (by omega) (by omega)
  have mO : ∀ {s1 : sT}, s1.2 = s.2 → rM s1.2 := fun e => by rw [e]; exact hM
  have fin : ∀ s3, ad0 s s3 N p n how (p + n) n 3 js → s3.1 193 N = (if how = 0 then -1 else if how = 2 then 1 else 0) → s3.1 194 N = nI 0 → s3.1 196 N = bz (decide (how = 1)) → tT (yY L xs) (d + 1) 154 160 [.ref 186, .int (nI how), .int (nI n), .int (nI N), .int 0] [] s3 K := by
    intro s3 h1 h2 h3 h4
    have g191 : tT (yY L xs) (d + 1) 154 191 [.ref 186, .int (nI how), .int (nI n), .int (nI N), .int 0] [] s3 K := by
      refine b_154_191 ?_
      rw [if_pos (by rcases hh with rfl | rfl | rfl <;> decide)]
      refine b_154_213 ⟨so_186, so_186, ?_⟩
      rw [h1.2.2.1 12 (by decide), h12, ← nI_succ]
      exact h s3 h1 h2 h3 h4
    refine b_154_160 ?_
    split
    · exact g191
    · rw [if_pos (by rcases hh with rfl | rfl | rfl <;> decide)]
      exact g191
  have loop2 : ∀ q w s1, q + w = 3 → ad0 s s1 N p n how (p + n) n w js → s1.1 193 N = (if how = 0 then -1 else if how = 2 then 1 else 0) → s1.1 194 N = nI 0 → s1.1 196 N = bz (decide (how = 1)) → tT (yY L xs) (d + 1) 154 133 [.ref 186, .int (nI how), .int (nI n), .int (nI N), .int (nI w)] [] s1 K := by
    intro q
    induction q with
    | zero =>
      intro w s1 hw h1 h2 h3 h4
      have e : w = 3 := by omega
      subst e
      refine b_154_133 ?_
      rw [if_pos (by decide)]
      exact fin s1 h1 h2 h3 h4
    | succ q ih =>
      intro w s1 hw h1 h2 h3 h4
      refine b_154_133 ?_
      rw [if_neg (by rw [nI_lit 3, nJ_le (by omega) (by omega)]; omega)]
      refine ⟨198, ⟨so_186, rm_186_15 (mO h1.1)⟩, 4500, ?_⟩
      rw [nI_lit 3, nJ_mul, nJ_add, nI_cl (show 3 * N + w < 2147483648 by omega)]
      refine ⟨⟨sa_198, inR_nI (by omega) (by decide)⟩, ?_⟩
      have := ih (w + 1) (pV s1 198 (3 * N + w) (-1)) (by omega) (ad0_mark h1 (by omega)) (by rw [pV_1, if_neg (by omega), h2]) (by rw [pV_1, if_neg (by omega), h3]) (by rw [pV_1, if_neg (by omega), h4])
      rw [nI_succ] at this
      exact this
  have g122 : ∀ s1 x4, ad0 s s1 N p n how (p + n) n 0 js → s1.1 196 N = bz (decide (how = 1)) → tT (yY L xs) (d + 1) 154 122 [.ref 186, .int (nI how), .int (nI n), .int (nI N), .int x4] [.int (if how = 0 then -1 else if how = 2 then 1 else 0), .int (nI N), .ref 193] s1 K := by
    intro s1 x4 h1 h2
    refine b_154_122 ⟨1500, ⟨sa_193, ink rfl⟩, 194, ⟨so_186, rm_186_9 (mO h1.1)⟩, 1500, ⟨sa_194, ink rfl⟩, ?_⟩
    rw [ck]
    refine loop2 3 0 _ rfl (ad0_own (ad0_own h1 (Or.inl rfl)) (Or.inr (Or.inl rfl))) ?_ ?_ ?_
    · rw [pV_1, if_neg (by omega), pV_1, if_pos ⟨rfl, rfl⟩]
    · rw [pV_1, if_pos ⟨rfl, rfl⟩]; rfl
    · rw [pV_1, if_neg (by omega), pV_1, if_neg (by omega)]; exact h2
  have g98 : ∀ s1 x4, ad0 s s1 N p n how (p + n) n 0 js → tT (yY L xs) (d + 1) 154 98 [.ref 186, .int (nI how), .int (nI n), .int (nI N), .int x4] [.int (bz (decide (how = 1))), .int (nI N), .ref 196] s1 K := by
    intro s1 x4 h1
    refine b_154_98 ⟨1500, ⟨sa_196, ink rfl, bz_01 _⟩, 193, ⟨so_186, rm_186_8 (mO h1.1)⟩, ?_⟩
    have := g122 (pV s1 196 N (bz (decide (how = 1)))) x4 (ad0_own h1 (Or.inr (Or.inr rfl))) (by rw [pV_1, if_pos ⟨rfl, rfl⟩])
    rw [ck]
    rcases hh with rfl | rfl | rfl
    · rw [if_neg (by decide)]; exact this
    · rw [if_pos (by decide), if_pos (by decide)]; exact this
    · rw [if_pos (by decide), if_neg (by decide)]; exact this
  have loop1 : ∀ q i s1, q + i = n → ad0 s s1 N p n how p i 0 js → tT (yY L xs) (d + 1) 154 32 [.ref 186, .int (nI how), .int (nI n), .int (nI N), .int (nI i)] [] s1 K := by
    intro q
    induction q with
    | zero =>
      intro i s1 hi h1
      have e : i = n := by omega
      subst e
      refine b_154_32 ?_
      rw [if_pos (by rw [nJ_le (by omega) (by omega)]; omega)]
      refine ⟨so_186, so_186, 196, ⟨so_186, rm_186_11 (mO h1.1)⟩, ?_⟩
      rw [h1.2.2.2.1, nJ_add]
      have g := g98 (pV s1 186 13 (nI (p + i))) (nI i) (ad0_pooled h1)
      rcases hh with rfl | rfl | rfl
      · rw [if_neg (by decide), if_neg (by decide), if_pos (by decide)]
        exact g
      · rw [if_pos (by decide)]
        exact b_154_93 g
      · rw [if_neg (by decide), if_neg (by decide), if_pos (by decide)]
        exact g
    | succ q ih =>
      intro i s1 hi h1
      refine b_154_32 ?_
      rw [if_neg (by rw [nJ_le (by omega) (by omega)]; omega)]
      refine ⟨195, ⟨so_186, rm_186_10 (mO h1.1)⟩, so_186, 200, ⟨so_186, rm_186_18 (mO h1.1)⟩, 400, ?_⟩
      rw [h1.2.2.2.1, nJ_add, nI_cl (show i < 2147483648 by omega), nI_cl (show p + i < 2147483648 by omega), h1.2.1 200 (by decide) (Or.inr (by decide)) (by decide), hrow i (by omega)]
      refine ⟨⟨sa_200, inR_nI (by omega) (by decide)⟩, 24000, ⟨sa_195, inR_nI (by omega) (by decide)⟩, ?_⟩
      have := ih (i + 1) _ (by omega) (ad0_pool h1 (by omega))
      rw [nI_succ] at this
      exact this
  refine b_154_0 ⟨so_186, 190, ⟨so_186, rm_186_5 hM⟩, 1500, ?_⟩
  rw [h12, ck]
  refine ⟨⟨sa_190, ink rfl⟩, 191, ⟨so_186, rm_186_6 hM⟩, so_186, 1500, ⟨sa_191, ink rfl⟩, 192, ⟨so_186, rm_186_7 hM⟩, 1500, ⟨sa_192, ink rfl⟩, ?_⟩
  rw [show (pV s 190 N (nI how)).1 186 13 = nI p from by rw [pV_1, if_neg (by omega), h13]]
  refine loop1 n 0 _ rfl ⟨rfl, fun z h1 h2 h3 => ?_, fun z hz => ?_, ?_, fun z t h1 h2 h3 h4 => ?_, ⟨?_, ?_, ?_⟩, fun t ht => ?_, fun i hi => absurd hi (Nat.not_lt_zero _), fun t ht => ?_, fun x hx => absurd hx (Nat.not_lt_zero _)⟩
  · funext t; rw [pV_1, if_neg (by omega), pV_1, if_neg (by omega), pV_1, if_neg (by omega)]
  · rw [pV_1, if_neg (by omega), pV_1, if_neg (by omega), pV_1, if_neg (by omega)]
  · rw [pV_1, if_neg (by omega), pV_1, if_neg (by omega), pV_1, if_neg (by omega), h13]
  · rw [pV_1, if_neg (by omega), pV_1, if_neg (by omega), pV_1, if_neg (by omega)]
  · rw [pV_1, if_neg (by omega), pV_1, if_neg (by omega), pV_1, if_pos ⟨rfl, rfl⟩]
  · rw [pV_1, if_neg (by omega), pV_1, if_pos ⟨rfl, rfl⟩]
  · rw [pV_1, if_pos ⟨rfl, rfl⟩]
  · rw [pV_1, if_neg (by omega), pV_1, if_neg (by omega), pV_1, if_neg (by omega)]
  · rw [pV_1, if_neg (by omega), pV_1, if_neg (by omega), pV_1, if_neg (by omega)]
/-- what the state keeps over all that lays nodes, reads, spells, lays parts and terms -/
def fk (s s' : sT) : Prop := s'.2 = s.2 ∧ (∀ z, z < 190 → z ≠ 186 → s'.1 z = s.1 z) ∧ ∀ z, z ≤ 4 → s'.1 186 z = s.1 186 z
theorem fk_refl (s : sT) : fk s s := ⟨rfl, fun _ _ _ => rfl, fun _ _ => rfl⟩
theorem fk_trans {s1 s2 : sT} (h1 : fk s s1) (h2 : fk s1 s2) : fk s s2 := ⟨h2.1.trans h1.1, fun z a b => (h2.2.1 z a b).trans (h1.2.1 z a b), fun z a => (h2.2.2 z a).trans (h1.2.2 z a)⟩
theorem fk_put {s1 : sT} {c i : Nat} {x : Int32} (h : fk s s1) (hc : 190 ≤ c ∨ (c = 186 ∧ 4 < i)) : fk s (pV s1 c i x) := ⟨h.1, fun z a b => by rw [← h.2.1 z a b]; funext t; rw [pV_1, if_neg (by omega)], fun z a => by rw [← h.2.2 z a, pV_1, if_neg (by omega)]⟩
theorem fk_gz {s' : sT} {T T' : List Cond} (h : gz s s' T T') : fk s s' := ⟨h.1, fun z a b => h.2.1 z b (Or.inl a) (by omega) (by omega) (by omega), fun z a => h.2.2.1 z (by omega) (by omega) (by omega)⟩
/-- the first n atoms are laid -/
def atO (v : Nat → Nat → Int32) (n : Nat) : Prop := v 186 12 = nI n ∧ v 186 13 = nI (n - 2) ∧ v 186 17 = 0 ∧ (∀ k, k < n → v 190 k = nI (kd (.count k)) ∧ v 191 k = nI (k - 2) ∧ v 192 k = nI (nch (.count k)) ∧ v 193 k = sh (.count k) ∧ v 194 k = nI 0 ∧ v 196 k = bz (full (.count k)) ∧ (2 ≤ k → v 195 (k - 2) = nI (k - 2))) ∧ ∀ t, t < 3 * n → v 198 t = -1
def T5 : List Cond := [.count 0, .count 1, .count 2, .count 3, .count 4]
theorem T5_at {k : Nat} {y : Cond} (h : T5[k]? = some y) : k < 5 ∧ y = .count k := by
  have hk : k < 5 := (List.getElem?_eq_some_iff.mp h).1
  rcases (show k = 0 ∨ k = 1 ∨ k = 2 ∨ k = 3 ∨ k = 4 by omega) with rfl | rfl | rfl | rfl | rfl <;> (cases h; exact ⟨by decide, rfl⟩)
theorem at_tb (hM : rM s.2) (h : atO s.1 5) : tb s T5 := by
  obtain ⟨h1, h2, h3, h4, h5⟩ := h
  refine ⟨hM, ⟨fun k => k - 2, h1, h2, ?_, fun y hy => ?_, fun k hk => ?_, fun k y hk => ?_⟩, fun y hy => ?_⟩
  · decide
  · obtain ⟨k, hk⟩ := List.getElem?_of_mem hy
    obtain ⟨hk5, rfl⟩ := T5_at hk
    exact hk5
  · rcases (show k = 0 ∨ k = 1 ∨ k = 2 ∨ k = 3 ∨ k = 4 by omega) with rfl | rfl | rfl | rfl | rfl <;> rfl
  · obtain ⟨hk5, rfl⟩ := T5_at hk
    obtain ⟨a1, a2, a3, a4, a5, a6, a7⟩ := h4 k hk5
    refine ⟨⟨a1, a2, a3, a4, a5, a6, fun a ha => ?_, fun i c hc => ?_⟩, ?_⟩
    · have e : k = 2 + a := by cases ha; rfl
      have := a7 (by omega)
      rw [this, e, show 2 + a - 2 = a by omega]
    · cases hc
    · show k - 2 + nch (.count k) ≤ 3
      rcases (show k = 0 ∨ k = 1 ∨ k = 2 ∨ k = 3 ∨ k = 4 by omega) with rfl | rfl | rfl | rfl | rfl <;> decide
  · obtain ⟨k, hk⟩ := List.getElem?_of_mem hy
    obtain ⟨hk5, rfl⟩ := T5_at hk
    exact show 1 ≤ 150 by decide
/-- one more atom -/
theorem at_step {s3 : sT} {n m how : Nat} {js : List Nat} (hn : n < 5) (h : atO s.1 n) (hm : m = nch (.count n)) (hh : how = kd (.count n)) (hjs : 2 ≤ n → js.getD 0 0 = n - 2) (hA : ad0 s s3 n (n - 2) m how (n - 2 + m) m 3 js) (e1 : s3.1 193 n = (if how = 0 then -1 else if how = 2 then 1 else 0)) (e2 : s3.1 194 n = nI 0) (e3 : s3.1 196 n = bz (decide (how = 1))) : atO (pV s3 186 12 (nI (n + 1))).1 (n + 1) := by
  obtain ⟨a1, a2, a3, a4, a5, ⟨a6, a7, a8⟩, a9, b1, b2, b3⟩ := hA
  obtain ⟨c1, c2, c3, c4, c5⟩ := h
  have up : ∀ z t, z ≠ 186 → (pV s3 186 12 (nI (n + 1))).1 z t = s3.1 z t := fun z t hz => by rw [pV_1, if_neg (fun q => hz q.1)]
  have hm' : n - 2 + m = n + 1 - 2 := by
    rw [hm]
    rcases (show n = 0 ∨ n = 1 ∨ n = 2 ∨ n = 3 ∨ n = 4 by omega) with rfl | rfl | rfl | rfl | rfl <;> decide
  have hm1 : 2 ≤ n → m = 1 := fun h => by omega
  refine ⟨?_, ?_, ?_, fun k hk => ?_, fun t ht => ?_⟩
  · rw [pV_1, if_pos ⟨rfl, rfl⟩]
  · rw [pV_1, if_neg (by omega), a4, hm']
  · rw [pV_1, if_neg (by omega), a3 17 (by decide)]; exact c3
  · by_cases e : k = n
    · subst e
      refine ⟨by rw [up 190 _ (by decide), a6, hh], by rw [up 191 _ (by decide), a7], by rw [up 192 _ (by decide), a8, hm], ?_, by rw [up 194 _ (by decide), e2], ?_, fun h2 => ?_⟩
      · rw [up 193 _ (by decide), e1, hh]
        rcases (show k = 0 ∨ k = 1 ∨ k = 2 ∨ k = 3 ∨ k = 4 by omega) with rfl | rfl | rfl | rfl | rfl <;> rfl
      · rw [up 196 _ (by decide), e3, hh]
        rcases (show k = 0 ∨ k = 1 ∨ k = 2 ∨ k = 3 ∨ k = 4 by omega) with rfl | rfl | rfl | rfl | rfl <;> rfl
      · have := b1 0 (by rw [hm1 h2]; decide)
        rw [hjs h2, Nat.add_zero] at this
        rw [up 195 _ (by decide), this]
    · obtain ⟨q1, q2, q3, q4, q5, q6, q7⟩ := c4 k (by omega)
      have old : ∀ c, 190 ≤ c → c ≤ 196 → c ≠ 195 → (pV s3 186 12 (nI (n + 1))).1 c k = s.1 c k := fun c h1 h2 h3 => by rw [up c k (by omega)]; exact a5 c k h1 h2 h3 e
      refine ⟨by rw [old 190 (by decide) (by decide) (by decide)]; exact q1, by rw [old 191 (by decide) (by decide) (by decide)]; exact q2, by rw [old 192 (by decide) (by decide) (by decide)]; exact q3, by rw [old 193 (by decide) (by decide) (by decide)]; exact q4, by rw [old 194 (by decide) (by decide) (by decide)]; exact q5, by rw [old 196 (by decide) (by decide) (by decide)]; exact q6, fun h2 => ?_⟩
      rw [up 195 _ (by decide), a9 _ (Or.inl (by omega))]
      exact q7 h2
  · rw [up 198 _ (by decide)]
    by_cases e : t < 3 * n
    · rw [b2 t (Or.inl e)]; exact c5 t e
    · have := b3 (t - 3 * n) (by omega)
      rw [show 3 * n + (t - 3 * n) = t by omega] at this
      exact this
theorem ad0_fk {s3 : sT} {N p n how q c w x : Nat} {y : Int32} {js : List Nat} (hA : ad0 s s3 N p n how q c w js) : fk s (pV s3 186 12 y) := by
  refine fk_put ⟨hA.1, fun z a b => hA.2.1 z b (Or.inl a) (by omega), fun z a => hA.2.2.1 z (by omega)⟩ (Or.inr ⟨rfl, by decide⟩)
theorem r_clears (hM : rM s.2) (h : ∀ s', tb s' T5 → fk s s' → s'.1 186 17 = 0 → (∀ t, t < 15 → s'.1 198 t = -1) → K none s') : tT (yY L xs) (d + 2) 153 0 [.ref 186, .null] [] s K := by
  have loop : ∀ q x (s1 : sT), q + x = 3 → fk s s1 → atO s1.1 (2 + x) → tT (yY L xs) (d + 2) 153 31 [.ref 186, .int (nI x)] [] s1 K := by
    intro q
    induction q with
    | zero =>
      intro x s1 hx g1 g2
      have e : x = 3 := by omega
      subst e
      refine b_153_31 ?_
      rw [if_pos (by decide)]
      exact h s1 (at_tb (by rw [g1.1]; exact hM) g2) g1 g2.2.2.1 g2.2.2.2.2
    | succ q ih =>
      intro x s1 hx g1 g2
      have hM1 : rM s1.2 := by rw [g1.1]; exact hM
      refine b_153_31 ?_
      rw [if_neg (by rw [nI_lit 3, nJ_le (by omega) (by omega)]; omega)]
      refine ⟨200, ⟨so_186, rm_186_18 hM1⟩, 400, ⟨sa_200, inR_nI (k := 0) (by decide) (by decide)⟩, so_186, ?_⟩
      have g3 : atO (pV s1 200 0 (nI x)).1 (2 + x) := by
        unfold atO at g2 ⊢
        have : ∀ z t, z ≠ 200 → (pV s1 200 0 (nI x)).1 z t = s1.1 z t := fun z t hz => by rw [pV_1, if_neg (fun q => hz q.1)]
        simp only [this 186 _ (by decide), this 190 _ (by decide), this 191 _ (by decide), this 192 _ (by decide), this 193 _ (by decide), this 194 _ (by decide), this 195 _ (by decide), this 196 _ (by decide), this 198 _ (by decide)]
        exact g2
      have em : (1 : Nat) = nch (.count (2 + x)) := by
        rcases (show x = 0 ∨ x = 1 ∨ x = 2 by omega) with rfl | rfl | rfl <;> decide
      have eh : (2 : Nat) = kd (.count (2 + x)) := by
        rcases (show x = 0 ∨ x = 1 ∨ x = 2 by omega) with rfl | rfl | rfl <;> decide
      refine r_adds0 (N := 2 + x) (p := 2 + x - 2) (n := 1) (how := 2) (js := [x]) hM1 (by omega) (by omega) (by decide) (Or.inr (Or.inr rfl)) g3.1 g3.2.1 (fun i hi => ?_) (fun s3 hA e1 e2 e3 => ?_)
      · have : i = 0 := by omega
        subst this
        rw [pV_1, if_pos ⟨rfl, rfl⟩]; rfl
      · rw [rt_some]
        refine b_153_49 ?_
        have hs := at_step (by omega) g3 em eh (fun _ => by show x = 2 + x - 2; omega) hA e1 e2 e3
        have := ih (x + 1) _ (by omega) (fk_trans (fk_put g1 (Or.inl (by decide))) (ad0_fk (x := 0) hA)) hs
        rw [nI_succ] at this
        exact this
  refine b_153_0 ⟨so_186, so_186, so_186, so_186, ?_⟩
  have g0 : atO (pV (pV (pV s 186 12 0) 186 13 0) 186 17 0).1 0 := by
    refine ⟨?_, ?_, ?_, fun k hk => absurd hk (Nat.not_lt_zero _), fun t ht => absurd ht (by omega)⟩
    · rw [pV_1, if_neg (by omega), pV_1, if_neg (by omega), pV_1, if_pos ⟨rfl, rfl⟩]; rfl
    · rw [pV_1, if_neg (by omega), pV_1, if_pos ⟨rfl, rfl⟩]; rfl
    · rw [pV_1, if_pos ⟨rfl, rfl⟩]
  have f0 : fk s (pV (pV (pV s 186 12 0) 186 13 0) 186 17 0) := fk_put (fk_put (fk_put (fk_refl s) (Or.inr ⟨rfl, by decide⟩)) (Or.inr ⟨rfl, by decide⟩)) (Or.inr ⟨rfl, by decide⟩)
  refine r_adds0 (N := 0) (p := 0) (n := 0) (how := 0) (js := []) hM (by decide) (by decide) (by decide) (Or.inl rfl) g0.1 g0.2.1 (fun i hi => absurd hi (Nat.not_lt_zero _)) (fun s3 hA e1 e2 e3 => ?_)
  rw [rt_some]
  refine b_153_21 ⟨so_186, ?_⟩
  have g1 := at_step (by decide) g0 rfl rfl (fun h => absurd h (by decide)) hA e1 e2 e3
  have f1 := fk_trans f0 (ad0_fk (x := 0) (y := nI 1) hA)
  refine r_adds0 (N := 1) (p := 0) (n := 0) (how := 1) (js := []) (by rw [f1.1]; exact hM) (by decide) (by decide) (by decide) (Or.inr (Or.inl rfl)) g1.1 g1.2.1 (fun i hi => absurd hi (Nat.not_lt_zero _)) (fun s4 hA4 e14 e24 e34 => ?_)
  rw [rt_some]
  refine b_153_28 ?_
  exact loop 3 0 _ rfl (fk_trans f1 (ad0_fk (x := 0) hA4)) (at_step (by decide) g1 rfl rfl (fun h => absurd h (by decide)) hA4 e14 e24 e34)
end CL
