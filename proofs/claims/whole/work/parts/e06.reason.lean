/-! REASONS: why a line is not allowed; by the reference -/
/-- the first of k, k + 1, ... (q of them) with p -/
def ff (p : Nat → Bool) : Nat → Nat → Option Nat
  | 0, _ => none
  | q + 1, k => if p k = true then some k else ff p q (k + 1)
theorem ff_s (p : Nat → Bool) (q k : Nat) : ff p (q + 1) k = if p k = true then some k else ff p q (k + 1) := rfl
theorem ff_none {p : Nat → Bool} : ∀ {q k : Nat}, ff p q k = none → ∀ j, k ≤ j → j < k + q → p j = false
  | 0, _, _, j, h1, h2 => by omega
  | q + 1, k, h, j, h1, h2 => by
    unfold ff at h
    by_cases hp : p k = true
    · rw [if_pos hp] at h; cases h
    · rw [if_neg hp] at h
      by_cases e : j = k
      · subst e; cases hj : p j with
        | false => rfl
        | true => exact absurd hj hp
      · exact ff_none h j (by omega) (by omega)
def l3 (f : Nat → Option Nat) : Nat → Nat → Option (Nat × Nat)
  | 0, _ => none
  | q + 1, x => match f x with
    | some k => some (x, k)
    | none => l3 f q (x + 1)
def outB (n : Nat) (x : Int32) : Bool := decide (x < 0 ∨ nI n ≤ x)
theorem out_f {n : Nat} {x : Int32} (hn : n < 2147483648) (h : outB n x = false) : ∃ k, x = nI k ∧ k < n := by
  have h := of_decide_eq_false h
  obtain ⟨k, hk, rfl⟩ := i32_ex (fun q => h (Or.inl q))
  refine ⟨k, rfl, ?_⟩
  have h2 : ¬ nI n ≤ nI k := fun q => h (Or.inr q)
  rw [nJ_le hn hk] at h2
  omega
theorem out_in {n k : Nat} (hn : n < 2147483648) (hk : k < n) : outB n (nI k) = false := by
  refine decide_eq_false (fun q => ?_)
  rcases q with q | q
  · exact nI_nn (by omega) q
  · rw [nJ_le (by omega) (by omega)] at q; omega
def setB (n : Nat) (S : Int32) : Bool := decide (S &&& (((1 <<< (nI n &&& 31)) - 1) ^^^ -1) = 0)
theorem set_mask : ∀ n, n < 32 → 1 ≤ n → ((1 <<< (nI n &&& 31)) - 1 : Int32) = ((-1 : Int32).toUInt32 >>> (((32 : Int32) - nI n).toUInt32 &&& Int32.toUInt32 31)).toInt32 := by decide +kernel
theorem set_31 : ∀ n, n < 32 → 1 ≤ n → bt (((1 <<< (nI n &&& 31)) - 1) ^^^ -1) 31 = true := by decide +kernel
theorem neg_31 {S : Int32} (h : S < 0) : bt S 31 = true := by
  have h1 : S.toInt < 0 := Int32.lt_iff_toInt_lt.mp h
  have h2 : S.toBitVec.msb = true := by rw [BitVec.msb_eq_toInt]; exact decide_eq_true h1
  rw [BitVec.msb_eq_getLsbD_last] at h2
  exact h2
theorem set_neg {n : Nat} {S : Int32} (hn : n < 32) (h1 : 1 ≤ n) (h : S < 0) : setB n S = false := by
  refine decide_eq_false (fun q => ?_)
  have e : bt (S &&& (((1 <<< (nI n &&& 31)) - 1) ^^^ -1)) 31 = true := by rw [bt_and, neg_31 h, set_31 n hn h1]; rfl
  rw [q, bt_zero] at e
  cases e
/-- premise j of line i proves g within S -/
def prv (N : lnT) (i : Nat) (g S : Int32) (j : Nat) : Bool := decide (N.1.2.1 (N.2.2.1 i j).toNatClampNeg = g ∧ N.1.2.2.1 (N.2.2.1 i j).toNatClampNeg &&& (S ^^^ -1) = 0)
def hasP (N : lnT) (i : Nat) (g S : Int32) : Bool := (ff (prv N i g S) (N.2.1 i) 0).isSome
def prI (F : List Cond) (y : Cond) (x q : Nat) : Int32 := nI (F.idxOf ((pt y x).getD q S0))
def lackP (F0 F1 : List Cond) (N : lnT) (i : Nat) (y : Cond) (S : Int32) (x : Nat) : Option Nat := ff (fun q => !hasP N i (prI F0 y x q) (pso F1 S x F1.length)) (pt y x).length 0
/-- the reason of line i by the second rule: (reason, letter, part) -/
def rs2 (F0 F1 : List Cond) (N : lnT) (i : Nat) (y : Cond) (S : Int32) : Int32 × Int32 × Int32 :=
  if full y = true ∧ anyF F1 S = false then (3, -1, -1) else match ff (fun j => outB N.1.1 (N.2.2.1 i j)) (N.2.1 i) 0 with
  | some j => (4, -1, nI j)
  | none => match l3 (lackP F0 F1 N i y S) 3 0 with
    | some (x, k) => (5, nI (x + 1), prI F0 y x k)
    | none => (0, -1, -1)
def rs1 (F0 F1 : List Cond) (N : lnT) (i : Nat) (y : Cond) (S r : Int32) : Int32 × Int32 × Int32 :=
  if setB F1.length S = false then (1, -1, -1) else if ¬ (r = 0 ∨ r = 1) then (1, -1, -1) else if r = 0 then (if memF F1 y S = true then (0, -1, -1) else (2, -1, -1)) else rs2 F0 F1 N i y S
def rsn (F0 F1 : List Cond) (N : lnT) (i : Nat) : Int32 × Int32 × Int32 :=
  if outB F0.length (N.1.2.1 i) = true then (1, -1, -1) else rs1 F0 F1 N i (F0.getD (N.1.2.1 i).toNatClampNeg S0) (N.1.2.2.1 i) (N.1.2.2.2 i)
/-- what stays while the reference looks for a reason -/
def f3 (s s' : sT) : Prop := s'.2 = s.2 ∧ (∀ z, z ≠ 186 → s'.1 z = s.1 z) ∧ ∀ z, z < 42 → s'.1 186 z = s.1 186 z
theorem f3_refl (s : sT) : f3 s s := ⟨rfl, fun _ _ => rfl, fun _ _ => rfl⟩
theorem f3_trans {s s1 s2 : sT} (h1 : f3 s s1) (h2 : f3 s1 s2) : f3 s s2 := ⟨h2.1.trans h1.1, fun z a => (h2.2.1 z a).trans (h1.2.1 z a), fun z a => (h2.2.2 z a).trans (h1.2.2 z a)⟩
theorem f3_put {s s1 : sT} {k : Nat} {v : Int32} (h : f3 s s1) (hk : 42 ≤ k) : f3 s (pV s1 186 k v) := by
  refine ⟨h.1, fun z a => ?_, fun z a => ?_⟩
  · rw [show (pV s1 186 k v).1 z = s1.1 z from funext fun j => by rw [pV_1, if_neg (fun q => a q.1)]]; exact h.2.1 z a
  · rw [pV_1, if_neg (by omega)]; exact h.2.2 z a
def rQ (s : sT) (T : List Cond) (X0 X1 : Cond) (N : lnT) : Prop := tb s T ∧ T.length ≤ 1500 ∧ rS s T 0 X0 ∧ rS s T 1 X1 ∧ lnR (s.1 187) 0 N ∧ lnB N
theorem rQ_f3 {s s' : sT} {T : List Cond} {X0 X1 : Cond} {N : lnT} (h : rQ s T X0 X1 N) (f : f3 s s') : rQ s' T X0 X1 N := by
  obtain ⟨h1, h2, h3, h4, h5, h6⟩ := h
  obtain ⟨hM, ⟨off, hN⟩, hs⟩ := h1
  exact ⟨⟨by rw [f.1]; exact hM, ⟨off, rN_off hN (f.2.2 12 (by decide)) (f.2.2 13 (by decide)) (fun z a b => f.2.1 z (by omega))⟩, hs⟩, h2, sp_rS h3 (fun z a _ _ => f.2.1 z a), sp_rS h4 (fun z a _ _ => f.2.1 z a), by rw [f.2.1 187 (by decide)]; exact h5, h6⟩
section RE
variable {L : Nat} {xs : Nat → Int32} {d : Nat} {s : sT} {K : Option Int32 → sT → Prop} {T : List Cond} {X0 X1 : Cond} {N : lnT}
theorem r_hasPremise {i : Nat} {g S : Int32} (h : rQ s T X0 X1 N) (hi : i < N.1.1) (hp : ∀ j, j < N.2.1 i → ∃ k, N.2.2.1 i j = nI k ∧ k < N.1.1) (hK : K (some (bz (hasP N i g S))) s) : tT (yY L xs) d 203 0 [.ref 186, .int (nI i), .int g, .int S, .null, .null] [] s K := by
  obtain ⟨hT, -, -, -, ⟨l1, l4, l5, l6, l7, l9, l3, l11⟩, b1, b2, b3⟩ := h
  simp only [Nat.zero_add] at l1 l4 l5 l6 l7 l9 l3
  have hM := hT.1
  have hb := b2 i hi
  have loop : ∀ q k u, q + k = N.2.1 i → K (some (bz (ff (prv N i g S) q k).isSome)) s → tT (yY L xs) d 203 3 [.ref 186, .int (nI i), .int g, .int S, .int (nI k), u] [] s K := by
    intro q
    induction q with
    | zero =>
      intro k u hk hK
      refine b_203_3 ⟨187, ⟨so_186, rm_186_0 hM⟩, 42882, ?_⟩
      rw [nI_lit 1087, nJ_add, nI_cl (show 1087 + i < 2147483648 by omega), l7 i hi, if_pos (by rw [nJ_le (by omega) (by omega)]; omega)]
      exact ⟨⟨sa_187, inR_nI (by omega) (by decide)⟩, hK⟩
    | succ q ih =>
      intro k u hk hK
      obtain ⟨p, ep, hpl⟩ := hp k (by omega)
      have e9 := l9 i hi k (by omega)
      rw [ep] at e9
      refine b_203_3 ⟨187, ⟨so_186, rm_186_0 hM⟩, 42882, ?_⟩
      rw [nI_lit 1087, nJ_add, nI_cl (show 1087 + i < 2147483648 by omega), l7 i hi, if_neg (by rw [nJ_le (by omega) (by omega)]; omega)]
      refine ⟨⟨sa_187, inR_nI (by omega) (by decide)⟩, 187, ⟨so_186, rm_186_0 hM⟩, 42882, ?_⟩
      rw [nI_lit 1387, nI_lit 30, nJ_mul, nJ_add, nJ_add, nI_cl (show 1387 + 30 * i + k < 2147483648 by omega), e9]
      refine ⟨⟨sa_187, inR_nI (by omega) (by decide)⟩, 187, ⟨so_186, rm_186_0 hM⟩, 42882, ?_⟩
      rw [nI_lit 187, nJ_add, nI_cl (show 187 + p < 2147483648 by omega), l4 p hpl]
      refine ⟨⟨sa_187, inR_nI (by omega) (by decide)⟩, ?_⟩
      unfold ff at hK
      have epr : prv N i g S k = decide (N.1.2.1 p = g ∧ N.1.2.2.1 p &&& (S ^^^ -1) = 0) := by unfold prv; rw [ep, nI_cl (by omega)]
      have nxt : prv N i g S k = false → tT (yY L xs) d 203 71 [.ref 186, .int (nI i), .int g, .int S, .int (nI k), .int (nI p)] [] s K := fun e => by
        rw [e, if_neg (by decide)] at hK
        refine b_203_71 ?_
        rw [← nI_succ k]
        exact ih (k + 1) _ (by omega) hK
      by_cases e1 : N.1.2.1 p = g
      · rw [if_neg (fun q => q e1)]
        refine ⟨187, ⟨so_186, rm_186_0 hM⟩, 42882, ?_⟩
        rw [nI_lit 487, nJ_add, nI_cl (show 487 + p < 2147483648 by omega), l5 p hpl]
        refine ⟨⟨sa_187, inR_nI (by omega) (by decide)⟩, ?_⟩
        by_cases e2 : N.1.2.2.1 p &&& (S ^^^ -1) = 0
        · rw [if_neg (fun q => q e2)]
          rw [epr, decide_eq_true ⟨e1, e2⟩, if_pos rfl] at hK
          exact hK
        · rw [if_pos e2]
          exact nxt (by rw [epr]; exact decide_eq_false (fun q => e2 q.2))
      · rw [if_pos e1]
        exact nxt (by rw [epr]; exact decide_eq_false (fun q => e1 q.1))
  exact b_203_0 (loop _ 0 _ rfl hK)
theorem bz_0 {b : Bool} (h : b = false) : bz b = 0 := by rw [h]; rfl
theorem bz_1 {b : Bool} (h : b = true) : bz b = 1 := by rw [h]; rfl
theorem rule_01 {r : Int32} (h1 : ¬ r < 0) (h2 : ¬ (1 : Int32) < r) : r = 0 ∨ r = 1 := by
  obtain ⟨k, hk, rfl⟩ := i32_ex h1
  rw [nI_lit 1, nJ_lt (by omega) hk] at h2
  rcases (show k = 0 ∨ k = 1 by omega) with rfl | rfl
  · exact Or.inl rfl
  · exact Or.inr rfl
theorem r_reason {i : Nat} (h : rQ s T X0 X1 N) (hi : i < N.1.1) (c0 : cn X0) (hz : z0 X0 ≤ 30) (c1 : cn X1) (hz1 : z0 X1 ≤ 30) (hK : ∀ s', f3 s s' → s'.1 186 42 = (rsn (tms X0) (tms X1) N i).2.1 → s'.1 186 43 = (rsn (tms X0) (tms X1) N i).2.2 → K (some (rsn (tms X0) (tms X1) N i).1) s') : tT (yY L xs) (d + 2) 204 0 [.ref 186, .int (nI i), .null, .null, .null, .null, .null, .null, .null] [] s K := by
  have hT0 := h.1
  obtain ⟨l1, l4, l5, l6, l7, l9, l3', l11⟩ := h.2.2.2.2.1
  obtain ⟨b1, b2, b3⟩ := h.2.2.2.2.2
  simp only [Nat.zero_add] at l1 l4 l5 l6 l7 l9
  have hM := hT0.1
  have hb := b2 i hi
  refine b_204_0 ⟨187, ⟨so_186, rm_186_0 hM⟩, 42882, ?_⟩
  rw [nI_lit 187, nI_lit 487, nI_lit 787, nJ_add, nJ_add, nJ_add, nI_cl (show 187 + i < 2147483648 by omega), nI_cl (show 487 + i < 2147483648 by omega), nI_cl (show 787 + i < 2147483648 by omega)]
  refine ⟨⟨sa_187, inR_nI (by omega) (by decide)⟩, 187, ⟨so_186, rm_186_0 hM⟩, 42882, ⟨sa_187, inR_nI (by omega) (by decide)⟩, 187, ⟨so_186, rm_186_0 hM⟩, 42882, ⟨sa_187, inR_nI (by omega) (by decide)⟩, so_186, so_186, 211, ⟨so_186, rm_186_35 hM⟩, 2, ⟨sa_211, inR_nI (k := 0) (by decide) (by decide)⟩, ?_⟩
  rw [l4 i hi, l5 i hi, l6 i hi]
  have f1 : f3 s (pV (pV s 186 42 (-1)) 186 43 (-1)) := f3_put (f3_put (f3_refl s) (by decide)) (by decide)
  have e42 : (pV (pV s 186 42 (-1)) 186 43 (-1)).1 186 42 = -1 := by rw [pV_1, if_neg (by decide), pV_1, if_pos ⟨rfl, rfl⟩]
  have e43 : (pV (pV s 186 42 (-1)) 186 43 (-1)).1 186 43 = -1 := by rw [pV_1, if_pos ⟨rfl, rfl⟩]
  generalize pV (pV s 186 42 (-1)) 186 43 (-1) = s1 at f1 e42 e43 ⊢
  have hQ := rQ_f3 h f1
  obtain ⟨hT, hl, hS0, hS1, ⟨l1, l4, l5, l6, l7, l9, l3', l11⟩, -⟩ := hQ
  simp only [Nat.zero_add] at l1 l4 l5 l6 l7 l9
  have hM := hT.1
  have fin : ∀ (v : Int32 × Int32 × Int32) (s' : sT), rsn (tms X0) (tms X1) N i = v → f3 s s' → s'.1 186 42 = v.2.1 → s'.1 186 43 = v.2.2 → K (some v.1) s' := fun v s' e a b c => by
    subst e; exact hK s' a b c
  have fin1 : ∀ v : Int32, rsn (tms X0) (tms X1) N i = (v, -1, -1) → K (some v) s1 := fun v e => fin _ s1 e f1 e42 e43
  have h310 := rS_31 hS0
  have h311 := rS_31 hS1
  have hn1 : 1 ≤ (tms X1).length := (List.getElem?_eq_some_iff.mp (tms_at0 c1 hz1)).1
  rw [show (0 : Int32).toNatClampNeg = 0 from rfl, hS0.1.2.2.1]
  refine m_isIn0 (by omega) (fun t eg ht => ?_) (fun q => ?_)
  · rw [rt_some]
    have hy := List.getElem?_eq_getElem ht
    generalize (tms X0)[t] = y at hy
    have ers : rsn (tms X0) (tms X1) N i = rs1 (tms X0) (tms X1) N i y (N.1.2.2.1 i) (N.1.2.2.2 i) := by
      unfold rsn
      rw [eg, out_in (by omega) ht, if_neg (by decide), nI_cl (by omega), List.getD_eq_getElem?_getD, hy]; rfl
    rw [eg]
    generalize N.1.2.2.1 i = S at ers ⊢
    generalize N.1.2.2.2 i = r at ers ⊢
    refine b_204_57 ?_
    rw [if_neg (by decide)]
    unfold rs1 at ers
    by_cases hneg : S < 0
    · rw [if_pos hneg]
      rw [if_pos (set_neg (by omega) hn1 hneg)] at ers
      exact fin1 1 ers
    rw [if_neg hneg]
    refine ⟨211, ⟨so_186, rm_186_35 hM⟩, 2, ⟨sa_211, inR_nI (k := 1) (by decide) (by decide)⟩, ?_⟩
    rw [show (1 : Int32).toNatClampNeg = 1 from rfl, hS1.1.2.2.1, ← set_mask _ (by omega) hn1]
    by_cases hset : S &&& (((1 <<< (nI (tms X1).length &&& 31)) - 1) ^^^ -1) = 0
    case neg =>
      rw [if_pos hset]
      rw [if_pos (show setB (tms X1).length S = false from decide_eq_false hset)] at ers
      exact fin1 1 ers
    rw [if_neg (fun q => q hset)]
    rw [if_neg (by rw [show setB (tms X1).length S = true from decide_eq_true hset]; decide)] at ers
    by_cases hr : r = 0 ∨ r = 1
    case neg =>
      rw [if_pos hr] at ers
      refine m_isIn (fun a b => absurd (rule_01 a b) hr) (fun _ => ?_)
      rw [rt_some]
      refine b_204_89 ?_
      rw [if_neg (fun q => q rfl)]
      exact fin1 1 ers
    rw [if_neg (fun q => q hr)] at ers
    refine m_isIn (fun _ _ => ?_) (fun q => by
      rcases hr with rfl | rfl
      · exact absurd q (by decide)
      · exact absurd q (by decide))
    rw [rt_some]
    refine b_204_89 ?_
    rw [if_pos (by decide)]
    by_cases hr0 : r = 0
    · rw [if_neg (fun q => q hr0)]
      rw [if_pos hr0] at ers
      refine ⟨so_186, r_isMember hT hl hS0 hS1 hy ?_⟩
      rw [rt_some]
      refine b_204_105 ?_
      cases hm : memF (tms X1) y S with
      | false =>
        rw [hm, if_neg (by decide)] at ers
        exact fin1 2 ers
      | true =>
        rw [hm, if_pos rfl] at ers
        exact fin1 0 ers
    rw [if_pos hr0]
    rw [if_neg hr0] at ers
    -- the parts
    have h3 := pt_three c0 ((tms_all c0 (by have := lts_30 hz; omega)).2.1 y (List.mem_of_getElem? hy))
    have hlt := lts_30 hz
    have parts : (∀ j, j < N.2.1 i → ∃ k, N.2.2.1 i j = nI k ∧ k < N.1.1) → rsn (tms X0) (tms X1) N i = (match l3 (lackP (tms X0) (tms X1) N i y S) 3 0 with | some (x, k) => (5, nI (x + 1), prI (tms X0) y x k) | none => (0, -1, -1)) → tT (yY L xs) (d + 2) 204 205 [.ref 186, .int (nI i), .int (nI t), .int S, .int r, .int 0, .null, .null, .null] [] s1 K := fun hp ers => by
      have loop2 : ∀ q x u6 u7 u8, q + x = 3 → l3 (lackP (tms X0) (tms X1) N i y S) q x = l3 (lackP (tms X0) (tms X1) N i y S) 3 0 → tT (yY L xs) (d + 2) 204 205 [.ref 186, .int (nI i), .int (nI t), .int S, .int r, .int (nI x), u6, u7, u8] [] s1 K := by
        intro q
        induction q with
        | zero =>
          intro x u6 u7 u8 hx el
          refine b_204_205 ?_
          rw [if_pos (by rw [nI_lit 3, nJ_le (by omega) (by omega)]; omega)]
          rw [← el] at ers
          exact fin1 0 ers
        | succ q ih =>
          intro x u6 u7 u8 hx el
          refine b_204_205 ?_
          rw [if_neg (by rw [nI_lit 3, nJ_le (by omega) (by omega)]; omega)]
          refine ⟨so_186, r_partsOf (σ := 1) hT hS1 (by decide) (by omega) ?_⟩
          rw [rt_some]
          refine b_204_219 ?_
          have hlen : (pt y x).length ≤ 30 := by
            rcases (show x = 0 ∨ x = 1 ∨ x = 2 by omega) with rfl | rfl | rfl <;> omega
          obtain ⟨g1, g2, -⟩ := hS0.2 t y x hy (by omega)
          rw [show 3 * (31 * 0 + t) + x = 3 * t + x by omega] at g1
          have loop3 : ∀ q' k u8, q' + k = (pt y x).length → ff (fun q => !hasP N i (prI (tms X0) y x q) (pso (tms X1) S x (tms X1).length)) q' k = lackP (tms X0) (tms X1) N i y S x → tT (yY L xs) (d + 2) 204 224 [.ref 186, .int (nI i), .int (nI t), .int S, .int r, .int (nI x), .int (pso (tms X1) S x (tms X1).length), .int (nI k), u8] [] s1 K := by
            intro q'
            induction q' with
            | zero =>
              intro k u8 hk ef
              refine b_204_224 ⟨214, ⟨so_186, rm_186_38 hM⟩, 186, ?_⟩
              rw [nI_lit 3, nJ_mul, nJ_add, nI_cl (show 3 * t + x < 2147483648 by omega), g1, if_pos (by rw [nJ_le (by omega) (by omega)]; omega), ← nI_succ x]
              refine ⟨⟨sa_214, inR_nI (by omega) (by decide)⟩, ih (x + 1) _ _ _ (by omega) ?_⟩
              rw [← el]
              show _ = (match lackP (tms X0) (tms X1) N i y S x with | some k => some (x, k) | none => _)
              rw [← ef]; rfl
            | succ q' ih' =>
              intro k u8 hk ef
              have hkl : k < (pt y x).length := by omega
              have hc := List.getElem?_eq_getElem hkl
              generalize (pt y x)[k] = c at hc
              have epr : prI (tms X0) y x k = nI ((tms X0).idxOf c) := by unfold prI; rw [List.getD_eq_getElem?_getD, hc]; rfl
              obtain ⟨-, g3⟩ := g2 k c hc
              rw [show 31 * (3 * (31 * 0 + t) + x) + k = 31 * (3 * t + x) + k by omega] at g3
              refine b_204_224 ⟨214, ⟨so_186, rm_186_38 hM⟩, 186, ?_⟩
              rw [nI_lit 3, nJ_mul, nJ_add, nI_cl (show 3 * t + x < 2147483648 by omega), g1, if_neg (by rw [nJ_le (by omega) (by omega)]; omega)]
              refine ⟨⟨sa_214, inR_nI (by omega) (by decide)⟩, 213, ⟨so_186, rm_186_37 hM⟩, 5766, ?_⟩
              rw [nI_lit 31, nJ_mul, nJ_add, nI_cl (show 31 * (3 * t + x) + k < 2147483648 by omega), g3, ← epr]
              refine ⟨⟨sa_213, inR_nI (by omega) (by decide)⟩, so_186, r_hasPremise (rQ_f3 h f1) hi hp ?_⟩
              rw [rt_some]
              refine b_204_268 ?_
              unfold ff at ef
              cases hh : hasP N i (prI (tms X0) y x k) (pso (tms X1) S x (tms X1).length) with
              | true =>
                rw [if_neg (by decide)]
                rw [hh, if_neg (by decide)] at ef
                rw [← nI_succ k]
                exact ih' (k + 1) _ (by omega) ef
              | false =>
                rw [if_pos (show bz false = 0 from rfl)]
                rw [hh, if_pos (by decide)] at ef
                have el' : l3 (lackP (tms X0) (tms X1) N i y S) (q + 1) x = some (x, k) := by
                  show (match lackP (tms X0) (tms X1) N i y S x with | some k => some (x, k) | none => _) = _
                  rw [← ef]
                rw [← el, el'] at ers
                refine ⟨so_186, so_186, fin _ _ ers (f3_put (f3_put f1 (by decide)) (by decide)) ?_ ?_⟩
                · rw [pV_1, if_neg (by decide), pV_1, if_pos ⟨rfl, rfl⟩, ← nI_succ x]
                · rw [pV_1, if_pos ⟨rfl, rfl⟩]
          exact loop3 _ 0 _ rfl rfl
      exact loop2 3 0 _ _ _ rfl rfl
    have tail : ¬ (full y = true ∧ anyF (tms X1) S = false) → tT (yY L xs) (d + 2) 204 134 [.ref 186, .int (nI i), .int (nI t), .int S, .int r, .null, .null, .null, .null] [] s1 K := fun hnf => by
      unfold rs2 at ers
      rw [if_neg hnf] at ers
      have loop1 : ∀ q k, q + k = N.2.1 i → ff (fun j => outB N.1.1 (N.2.2.1 i j)) q k = ff (fun j => outB N.1.1 (N.2.2.1 i j)) (N.2.1 i) 0 → tT (yY L xs) (d + 2) 204 137 [.ref 186, .int (nI i), .int (nI t), .int S, .int r, .int (nI k), .null, .null, .null] [] s1 K := by
        intro q
        induction q with
        | zero =>
          intro k hk ef
          refine b_204_137 ⟨187, ⟨so_186, rm_186_0 hM⟩, 42882, ?_⟩
          rw [nI_lit 1087, nJ_add, nI_cl (show 1087 + i < 2147483648 by omega), l7 i hi, if_pos (by rw [nJ_le (by omega) (by omega)]; omega)]
          have ef' : ff (fun j => outB N.1.1 (N.2.2.1 i j)) (N.2.1 i) 0 = none := ef.symm
          rw [ef'] at ers
          exact ⟨⟨sa_187, inR_nI (by omega) (by decide)⟩, parts (fun j hj => out_f (by omega) (ff_none ef' j (by omega) (by omega))) ers⟩
        | succ q ih =>
          intro k hk ef
          refine b_204_137 ⟨187, ⟨so_186, rm_186_0 hM⟩, 42882, ?_⟩
          rw [nI_lit 1087, nJ_add, nI_cl (show 1087 + i < 2147483648 by omega), l7 i hi, if_neg (by rw [nJ_le (by omega) (by omega)]; omega)]
          refine ⟨⟨sa_187, inR_nI (by omega) (by decide)⟩, 187, ⟨so_186, rm_186_0 hM⟩, 42882, ?_⟩
          rw [nI_lit 1387, nI_lit 30, nJ_mul, nJ_add, nJ_add, nI_cl (show 1387 + 30 * i + k < 2147483648 by omega), l9 i hi k (by omega)]
          refine ⟨⟨sa_187, inR_nI (by omega) (by decide)⟩, 187, ⟨so_186, rm_186_0 hM⟩, 42882, ⟨sa_187, inR_nI (k := 186) (by decide) (by decide)⟩, ?_⟩
          rw [show (186 : Int32).toNatClampNeg = 186 from rfl, l1]
          rw [ff_s] at ef
          refine m_isIn0 (by omega) (fun p ep hpl => ?_) (fun q => ?_)
          · rw [rt_some]
            refine b_204_182 ?_
            rw [if_neg (by decide), ← nI_succ k]
            rw [show outB N.1.1 (N.2.2.1 i k) = false by rw [ep]; exact out_in (by omega) hpl, if_neg (by decide)] at ef
            exact ih (k + 1) (by omega) ef
          · rw [rt_some]
            refine b_204_182 ?_
            rw [if_pos rfl]
            rw [show outB N.1.1 (N.2.2.1 i k) = true from decide_eq_true q, if_pos rfl] at ef
            rw [← ef] at ers
            exact ⟨so_186, fin _ _ ers (f3_put f1 (by decide)) (by rw [pV_1, if_neg (by decide)]; exact e42) (by rw [pV_1, if_pos ⟨rfl, rfl⟩])⟩
      exact b_204_134 (loop1 _ 0 rfl rfl)
    refine ⟨so_186, r_isFull (σ := 0) hT hl hS0 (by decide) hy ?_⟩
    rw [rt_some]
    refine b_204_120 ?_
    cases hf : full y with
    | false =>
      rw [if_pos (show bz false = 0 from rfl)]
      exact tail (fun q => by rw [hf] at q; cases q.1)
    | true =>
      rw [if_neg (by decide)]
      refine ⟨so_186, r_isFullSet (σ := 1) hT hl hS1 (by decide) ?_⟩
      rw [rt_some]
      refine b_204_129 ?_
      cases ha : anyF (tms X1) S with
      | false =>
        rw [if_neg (fun q => q rfl)]
        unfold rs2 at ers
        rw [if_pos ⟨hf, ha⟩] at ers
        exact fin1 3 ers
      | true =>
        rw [if_pos (by decide)]
        exact tail (fun q => by rw [ha] at q; cases q.2)
  · rw [rt_some]
    refine b_204_57 ?_
    rw [if_pos rfl]
    refine fin1 1 ?_
    unfold rsn
    rw [show outB (tms X0).length (N.1.2.1 i) = true from decide_eq_true q, if_pos rfl]
end RE
