/-! SETS OF TERMS: fullness, parts, likeness; by class and reference -/
/-- the parts of a set, over the first n terms -/
def pso (F : List Cond) (S : Int32) (x : Nat) : Nat → Int32
  | 0 => 0
  | n + 1 => if bt S n = true then pso F S x n ||| setR F (3 * n + x) else pso F S x n
def anyF (F : List Cond) (S : Int32) : Bool := decide (S &&& fulM F F.length ≠ 0)
/-- is the term's shape one of the set? -/
def memF (F : List Cond) (y : Cond) (S : Int32) : Bool := decide (y ∈ F) && bt S (F.idxOf y)
theorem pso_0 (F : List Cond) (x : Nat) : ∀ n, pso F 0 x n = 0
  | 0 => rfl
  | n + 1 => by
    show (if bt 0 n = true then _ else _) = _
    rw [bt_zero, if_neg (by decide)]
    exact pso_0 F x n
theorem bt_fulM (F : List Cond) {t : Nat} (ht : t < 32) : ∀ n, n ≤ 32 → bt (fulM F n) t = decide (t < n ∧ full (F.getD t S0) = true)
  | 0, _ => by rw [show fulM F 0 = 0 from rfl, bt_zero, decide_eq_false (by omega)]
  | n + 1, hn => by
    have ih := bt_fulM F ht n (by omega)
    show bt (if full (F.getD n S0) = true then fulM F n ||| bitI n else fulM F n) t = _
    by_cases hf : full (F.getD n S0) = true
    · rw [if_pos hf, bt_or, ih, bt_bitI (by omega) ht]
      by_cases e : t = n
      · subst e
        rw [decide_eq_true rfl, Bool.or_true, decide_eq_true ⟨Nat.lt_succ_self _, hf⟩]
      · rw [decide_eq_false e, Bool.or_false]
        congr 1
        apply propext
        constructor
        · rintro ⟨a, b⟩; exact ⟨by omega, b⟩
        · rintro ⟨a, b⟩; exact ⟨by omega, b⟩
    · rw [if_neg hf, ih]
      congr 1
      apply propext
      constructor
      · rintro ⟨a, b⟩; exact ⟨by omega, b⟩
      · rintro ⟨a, b⟩
        refine ⟨?_, b⟩
        refine Nat.lt_of_le_of_ne (by omega) (fun e => ?_)
        subst e; exact hf b
theorem anyF_iff {F : List Cond} {S : Int32} (hF : F.length ≤ 31) : anyF F S = true ↔ ∃ t, t < F.length ∧ bt S t = true ∧ full (F.getD t S0) = true := by
  unfold anyF
  rw [decide_eq_true_iff, bt_n0]
  constructor
  · rintro ⟨t, ht, h⟩
    rw [bt_and, bt_fulM F ht _ (by omega), Bool.and_eq_true, decide_eq_true_iff] at h
    exact ⟨t, h.2.1, h.1, h.2.2⟩
  · rintro ⟨t, ht, h1, h2⟩
    refine ⟨t, by omega, ?_⟩
    rw [bt_and, bt_fulM F (by omega) _ (by omega), h1, decide_eq_true ⟨ht, h2⟩]; rfl
theorem bz_eq {b : Bool} {c : Bool} (h : b = c) : bz b = bz c := by rw [h]
section SE
variable {L : Nat} {xs : Nat → Int32} {d : Nat} {s : sT} {K : Option Int32 → sT → Prop} {T : List Cond} {X : Cond} {σ : Nat}
theorem rS_31 (h : rS s T σ X) : (tms X).length ≤ 31 := h.1.2.1
theorem r_isFull {t : Nat} {y : Cond} (hT : tb s T) (hl : T.length ≤ 1500) (hS : rS s T σ X) (hσ : σ < 2) (ht : (tms X)[t]? = some y) (hK : K (some (bz (full y))) s) : tT (yY L xs) d 181 0 [.ref 186, .int (nI σ), .int (nI t)] [] s K := by
  have h31 := rS_31 hS
  have htl := (List.getElem?_eq_some_iff.mp ht).1
  obtain ⟨j, j1, j2⟩ := hS.1.2.2.2 t y ht
  have hjl := (List.getElem?_eq_some_iff.mp j1).1
  obtain ⟨off, hN⟩ := hT.2.1
  have hf := (hN.2.2.2.2.2 j y j1).1.2.2.2.2.2.1
  refine b_181_0 ⟨196, ⟨so_186, rm_186_11 hT.1⟩, 210, ⟨so_186, rm_186_34 hT.1⟩, 62, ?_⟩
  rw [nI_lit 31, nJ_mul, nJ_add, nI_cl (show 31 * σ + t < 2147483648 by omega), j2, nI_cl (show j < 2147483648 by omega), hf]
  exact ⟨⟨sa_210, inR_nI (by omega) (by decide)⟩, 1500, ⟨sa_196, inR_nI (by omega) (by decide)⟩, bz_01 _, hK⟩
theorem r_isFullSet {S : Int32} (hT : tb s T) (hl : T.length ≤ 1500) (hS : rS s T σ X) (hσ : σ < 2) (hK : K (some (bz (anyF (tms X) S))) s) : tT (yY L xs) (d + 1) 182 0 [.ref 186, .int (nI σ), .int S, .null] [] s K := by
  have h31 := rS_31 hS
  have loop : ∀ q t, q + t = (tms X).length → (∀ u, u < t → ¬ (bt S u = true ∧ full ((tms X).getD u S0) = true)) → tT (yY L xs) (d + 1) 182 2 [.ref 186, .int (nI σ), .int S, .int (nI t)] [] s K := by
    intro q
    induction q with
    | zero =>
      intro t ht hn
      refine b_182_2 ⟨211, ⟨so_186, rm_186_35 hT.1⟩, 2, ⟨sa_211, inR_nI hσ (by decide)⟩, ?_⟩
      rw [nI_cl (by omega), hS.1.2.2.1, if_pos (by rw [nJ_le (by omega) (by omega)]; omega)]
      have e : anyF (tms X) S = false := by
        cases ea : anyF (tms X) S with
        | false => rfl
        | true =>
          obtain ⟨u, h1, h2, h3⟩ := (anyF_iff h31).mp ea
          exact absurd ⟨h2, h3⟩ (hn u (by omega))
      rw [e] at hK
      exact hK
    | succ q ih =>
      intro t ht hn
      have ht' : t < (tms X).length := by omega
      have hy := List.getElem?_eq_getElem ht'
      generalize (tms X)[t] = y at hy
      have egd : (tms X).getD t S0 = y := by rw [List.getD_eq_getElem?_getD, hy]; rfl
      have nxt : ¬ (bt S t = true ∧ full y = true) → tT (yY L xs) (d + 1) 182 32 [.ref 186, .int (nI σ), .int S, .int (nI t)] [] s K := fun hno => by
        refine b_182_32 ?_
        rw [← nI_succ]
        exact ih (t + 1) (by omega) (fun u hu => by
          by_cases e : u = t
          · subst e; rw [egd]; exact hno
          · exact hn u (by omega))
      refine b_182_2 ⟨211, ⟨so_186, rm_186_35 hT.1⟩, 2, ⟨sa_211, inR_nI hσ (by decide)⟩, ?_⟩
      rw [nI_cl (by omega), hS.1.2.2.1, if_neg (by rw [nJ_le (by omega) (by omega)]; omega)]
      by_cases hb : bt S t = true
      · rw [if_neg (fun q => q ((bt_t1 (by omega)).mpr hb))]
        refine ⟨so_186, r_isFull hT hl hS hσ hy ?_⟩
        rw [rt_some]
        refine b_182_27 ?_
        cases hf : full y with
        | false =>
          rw [if_pos (show bz false = 0 from rfl)]
          exact nxt (fun q => by rw [hf] at q; cases q.2)
        | true =>
          rw [if_neg (show ¬ bz true = 0 by decide)]
          have e : anyF (tms X) S = true := (anyF_iff h31).mpr ⟨t, ht', hb, by rw [egd]; exact hf⟩
          rw [e] at hK
          exact hK
      · rw [if_pos (fun q => hb ((bt_t1 (by omega)).mp q))]
        exact nxt (fun q => hb q.1)
  exact b_182_0 (loop _ 0 rfl (fun u hu => absurd hu (Nat.not_lt_zero _)))
theorem rS_set (hS : rS s T σ X) {t x : Nat} (ht : t < (tms X).length) (hx : x < 3) : s.1 212 (3 * (31 * σ + t) + x) = setR (tms X) (3 * t + x) := by
  have hy := List.getElem?_eq_getElem ht
  rw [(hS.2 t _ x hy hx).2.2]
  unfold setR rowP
  rw [show (3 * t + x) / 3 = t by omega, show (3 * t + x) % 3 = x by omega, List.getD_eq_getElem?_getD, hy]; rfl
theorem r_partsOf {S : Int32} {x : Nat} (hT : tb s T) (hS : rS s T σ X) (hσ : σ < 2) (hx : x < 3) (hK : K (some (pso (tms X) S x (tms X).length)) s) : tT (yY L xs) d 183 0 [.ref 186, .int (nI σ), .int S, .int (nI x), .null, .null] [] s K := by
  have h31 := rS_31 hS
  have loop : ∀ q t, q + t = (tms X).length → tT (yY L xs) d 183 6 [.ref 186, .int (nI σ), .int S, .int (nI x), .int (pso (tms X) S x t), .int (nI t)] [] s K := by
    intro q
    induction q with
    | zero =>
      intro t ht
      refine b_183_6 ⟨211, ⟨so_186, rm_186_35 hT.1⟩, 2, ⟨sa_211, inR_nI hσ (by decide)⟩, ?_⟩
      rw [nI_cl (by omega), hS.1.2.2.1, if_pos (by rw [nJ_le (by omega) (by omega)]; omega), show t = (tms X).length by omega]
      exact hK
    | succ q ih =>
      intro t ht
      have e := ih (t + 1) (by omega)
      have ep : pso (tms X) S x (t + 1) = if bt S t = true then pso (tms X) S x t ||| setR (tms X) (3 * t + x) else pso (tms X) S x t := rfl
      rw [ep, nI_succ] at e
      refine b_183_6 ⟨211, ⟨so_186, rm_186_35 hT.1⟩, 2, ⟨sa_211, inR_nI hσ (by decide)⟩, ?_⟩
      rw [nI_cl (by omega), hS.1.2.2.1, if_neg (by rw [nJ_le (by omega) (by omega)]; omega)]
      by_cases hb : bt S t = true
      · rw [if_neg (fun q => q ((bt_t1 (by omega)).mpr hb))]
        rw [if_pos hb] at e
        refine ⟨212, ⟨so_186, rm_186_36 hT.1⟩, 186, ?_⟩
        rw [nI_lit 3, nI_lit 31, nJ_mul, nJ_add, nJ_mul, nJ_add, nI_cl (show 3 * (31 * σ + t) + x < 2147483648 by omega), rS_set hS (by omega) hx]
        exact ⟨⟨sa_212, inR_nI (by omega) (by decide)⟩, b_183_49 e⟩
      · rw [if_pos (fun q => hb ((bt_t1 (by omega)).mp q))]
        rw [if_neg hb] at e
        refine b_183_49 ?_
        rw [Int32.or_zero]
        exact e
  exact b_183_0 (loop _ 0 rfl)
theorem memF_iff {F : List Cond} {y : Cond} {S : Int32} (hF : F.Nodup) : memF F y S = true ↔ ∃ t, F[t]? = some y ∧ bt S t = true := by
  unfold memF
  rw [Bool.and_eq_true, decide_eq_true_iff]
  constructor
  · rintro ⟨h1, h2⟩
    exact ⟨F.idxOf y, at_idx h1, h2⟩
  · rintro ⟨t, h1, h2⟩
    exact ⟨List.mem_of_getElem? h1, by rw [idx_at hF h1]; exact h2⟩
theorem r_isMember {S : Int32} {X1 y : Cond} {t : Nat} (hT : tb s T) (hl : T.length ≤ 1500) (h0 : rS s T 0 X) (h1 : rS s T 1 X1) (ht : (tms X)[t]? = some y) (hK : K (some (bz (memF (tms X1) y S))) s) : tT (yY L xs) d 184 0 [.ref 186, .int (nI t), .int S, .null] [] s K := by
  have h31 := rS_31 h1
  have h310 := rS_31 h0
  have htl := (List.getElem?_eq_some_iff.mp ht).1
  obtain ⟨j, j1, j2⟩ := h0.1.2.2.2 t y ht
  rw [show 31 * 0 + t = t by omega] at j2
  have hjl := (List.getElem?_eq_some_iff.mp j1).1
  have hn1 := h1.1.1
  have loop : ∀ q k, q + k = (tms X1).length → (∀ u, u < k → ¬ ((tms X1)[u]? = some y ∧ bt S u = true)) → tT (yY L xs) d 184 2 [.ref 186, .int (nI t), .int S, .int (nI k)] [] s K := by
    intro q
    induction q with
    | zero =>
      intro k hk hn
      refine b_184_2 ⟨211, ⟨so_186, rm_186_35 hT.1⟩, 2, ⟨sa_211, inR_nI (k := 1) (by decide) (by decide)⟩, ?_⟩
      rw [show (1 : Int32).toNatClampNeg = 1 from rfl, h1.1.2.2.1, if_pos (by rw [nJ_le (by omega) (by omega)]; omega)]
      have e : memF (tms X1) y S = false := by
        cases ea : memF (tms X1) y S with
        | false => rfl
        | true =>
          obtain ⟨u, q1, q2⟩ := (memF_iff hn1).mp ea
          have := (List.getElem?_eq_some_iff.mp q1).1
          exact absurd ⟨q1, q2⟩ (hn u (by omega))
      rw [e] at hK
      exact hK
    | succ q ih =>
      intro k hk hn
      have hk' : k < (tms X1).length := by omega
      have hy' := List.getElem?_eq_getElem hk'
      generalize (tms X1)[k] = y' at hy'
      obtain ⟨j', g1, g2⟩ := h1.1.2.2.2 k y' hy'
      have hjl' := (List.getElem?_eq_some_iff.mp g1).1
      have nxt : ¬ (y' = y ∧ bt S k = true) → tT (yY L xs) d 184 41 [.ref 186, .int (nI t), .int S, .int (nI k)] [] s K := fun hno => by
        refine b_184_41 ?_
        rw [← nI_succ]
        exact ih (k + 1) (by omega) (fun u hu => by
          by_cases e : u = k
          · subst e; rw [hy']; exact fun q => hno ⟨Option.some.inj q.1, q.2⟩
          · exact hn u (by omega))
      refine b_184_2 ⟨211, ⟨so_186, rm_186_35 hT.1⟩, 2, ⟨sa_211, inR_nI (k := 1) (by decide) (by decide)⟩, ?_⟩
      rw [show (1 : Int32).toNatClampNeg = 1 from rfl, h1.1.2.2.1, if_neg (by rw [nJ_le (by omega) (by omega)]; omega)]
      by_cases hb : bt S k = true
      · rw [if_neg (fun q => q ((bt_t1 (by omega)).mpr hb))]
        refine ⟨210, ⟨so_186, rm_186_34 hT.1⟩, 62, ?_⟩
        rw [nI_lit 31, nJ_add, nI_cl (show 31 + k < 2147483648 by omega), show s.1 210 (31 + k) = nI j' from g2, nI_cl (show t < 2147483648 by omega)]
        refine ⟨⟨sa_210, inR_nI (by omega) (by decide)⟩, 210, ⟨so_186, rm_186_34 hT.1⟩, 62, ⟨sa_210, inR_nI (by omega) (by decide)⟩, ?_⟩
        rw [j2]
        by_cases e : j' = j
        · rw [if_neg (fun q => q (by rw [e]))]
          rw [e, j1] at g1
          cases g1
          have em : memF (tms X1) y S = true := (memF_iff hn1).mpr ⟨k, hy', hb⟩
          rw [em] at hK
          exact hK
        · rw [if_pos (by rw [nJ_eq (by omega) (by omega)]; exact e)]
          refine nxt (fun q => e ?_)
          rw [q.1] at g1
          exact (List.getElem?_inj hjl' (tb_nd hT)).mp (g1.trans j1.symm)
      · rw [if_pos (fun q => hb ((bt_t1 (by omega)).mp q))]
        exact nxt (fun q => hb q.2)
  exact b_184_0 (loop _ 0 rfl (fun u hu => absurd hu (Nat.not_lt_zero _)))
/-- both sides laid by the reference -/
theorem r_lay {R : rmT} {I : Nat → Option rmT} {X0 X1 : Cond} (hR : simR s R I) (hI : ∀ k R', k < 2 → I k = some R' → rmB gD R') (c0 : cn X0) (z0' : z0 X0 ≤ 30) (c1 : cn X1) (z1' : z0 X1 ≤ 30) (e0 : R.2.2.1 = sdOf X0) (e1 : R.2.2.2.1 = sdOf X1)
    (h : ∀ s' T, tb s' T → T.length ≤ 1500 → pn T ≤ 24000 → fk s s' → rS s' T 0 X0 → rS s' T 1 X1 → simR s' R I → K none s') : tT (yY L xs) (d + 9) 180 0 [.ref 186, .int 0, .int 31, .null, .null] [] s K := by
  obtain ⟨p1, p2, p3⟩ := hR.2.2.1
  have t0 : txR (s.1 187) 0 (txL (sp X0 0)) := by have := hR.2.1.1; rw [e0] at this; exact this
  have t1 : txR (s.1 187) 31 (txL (sp X1 0)) := by have := hR.2.1.2.1; rw [e1] at this; exact this
  refine r_laysBoth (p := 0) (q := 31) hR.1 c0 z0' c1 z1' t0 t1 (by decide) (by decide) (fun s' T g1 g2 g3 g4 g5 g6 => h s' T g1 (by omega) (by omega) g4 g5 g6 ?_)
  exact simR_mk hR hI g4.1 (fun t ht => by rw [g4.2.1 188 (by decide) (by decide)]; exact p2 t ht) (g4.2.1 189 (by decide) (by decide)) (by rw [g4.2.2 3 (by decide)]; exact p1) (by rw [g4.2.2 4 (by decide)]; exact p3) (fun t _ => by rw [g4.2.1 187 (by decide) (by decide)]) (by rw [g4.2.1 187 (by decide) (by decide)]; exact hR.2.1)
end SE
