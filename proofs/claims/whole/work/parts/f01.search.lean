/-! THE SEARCH, as a function -/
/-- a line that was come to: goal, set, the line it came from, the letter, the length of its word -/
abbrev cmT : Type := Nat × Int32 × Int32 × Int32 × Nat
def cm0 : cmT := (0, 0, -1, 0, 0)
abbrev dnT : Type := Int32 × List Nat
/-- rule and premises of line k -/
def dg (D : List dnT) (k : Nat) : dnT := D.getD k (-1, [])
def lgC (C : List cmT) : Nat := C.foldl (fun a l => max a l.2.2.2.2) 0
theorem lgC_app (C : List cmT) (l : cmT) : lgC (C ++ [l]) = max (lgC C) l.2.2.2.2 := by unfold lgC; rw [List.foldl_append]; rfl
def fit (C : List cmT) (g : Nat) (S : Int32) (k : Nat) : Bool := decide ((C.getD k cm0).1 = g ∧ (C.getD k cm0).2.1 &&& (S ^^^ -1) = 0)
def fnd (C : List cmT) (g : Nat) (S : Int32) : Option Nat := ff (fit C g S) C.length 0
def oI (o : Option Nat) : Int32 := match o with
  | none => -1
  | some k => nI k
/-- what a line asks for -/
def dmL (F0 F1 : List Cond) (y : Cond) (S : Int32) : Nat → Nat → List (Nat × Int32 × Nat)
  | 0, _ => []
  | q + 1, x => (pt y x).map (fun z => (F0.idxOf z, pso F1 S x F1.length, x)) ++ dmL F0 F1 y S q (x + 1)
def stp (i dp : Nat) : List (Nat × Int32 × Nat) → List cmT → List Nat → Bool × List cmT × List Nat
  | [], C, P => (true, C, P)
  | w :: W, C, P => match fnd C w.1 w.2.1 with
    | some k => stp i dp W C (P ++ [k])
    | none => if C.length < 300 then stp i dp W (C ++ [(w.1, w.2.1, nI i, nI w.2.2, dp + 1)]) (P ++ [C.length]) else (false, C, P)
def srch (F0 F1 : List Cond) : Nat → List cmT → List dnT → Int32 × List cmT × List dnT
  | 0, C, D => (0, C, D)
  | q + 1, C, D => if C.length ≤ D.length then (0, C, D) else
    if memF F1 (F0.getD (C.getD D.length cm0).1 S0) (C.getD D.length cm0).2.1 = true then srch F0 F1 q C (D ++ [(0, [])])
    else if full (F0.getD (C.getD D.length cm0).1 S0) = true ∧ anyF F1 (C.getD D.length cm0).2.1 = false then (1, C, D)
    else match stp D.length (C.getD D.length cm0).2.2.2.2 (dmL F0 F1 (F0.getD (C.getD D.length cm0).1 S0) (C.getD D.length cm0).2.1 3 0) C [] with
      | (true, C', P) => srch F0 F1 q C' (D ++ [(1, P)])
      | (false, C', _) => (2, C', D)
/-- the word of a line -/
def wdF (C : List cmT) : Nat → Nat → List Int32
  | 0, _ => []
  | n + 1, i => wdF C n (C.getD i cm0).2.2.1.toNatClampNeg ++ [(C.getD i cm0).2.2.2.1 + 1]
def wdO (v : Int32 × List cmT × List dnT) : Option txT := if v.1 = 1 then some (txL (wdF v.2.1 (v.2.1.getD v.2.2.length cm0).2.2.2.2 v.2.2.length)) else none
def lnH (C : List cmT) (D : List dnT) (ap : Option txT) : lnT := ((C.length, fun i => nI (C.getD i cm0).1, fun i => (C.getD i cm0).2.1, fun i => (dg D i).1), fun i => (dg D i).2.length, fun i j => nI ((dg D i).2.getD j 0), nI (lgC C), ap)
/-- what holds of the lines -/
def cI (n0 : Nat) (C : List cmT) (D : List dnT) : Prop := C.length ≤ 300 ∧ D.length ≤ C.length ∧ (∀ k l, C[k]? = some l → l.1 < n0 ∧ l.2.2.2.2 ≤ k ∧ (l.2.2.2.2 = 0 ∨ ∃ p l', l.2.2.1 = nI p ∧ p < k ∧ C[p]? = some l' ∧ l.2.2.2.2 = l'.2.2.2.2 + 1)) ∧ ∀ k, (dg D k).2.length ≤ 30
theorem getD_some {α : Type} {l : List α} {i : Nat} {x d : α} (h : l[i]? = some x) : l.getD i d = x := by rw [List.getD_eq_getElem?_getD, h]; rfl
theorem app_old {α : Type} {l : List α} {i : Nat} {x y : α} (h : (l ++ [x])[i]? = some y) : (i < l.length ∧ l[i]? = some y) ∨ (i = l.length ∧ y = x) := by
  by_cases hi : i < l.length
  · rw [List.getElem?_append_left hi] at h; exact Or.inl ⟨hi, h⟩
  · rw [List.getElem?_append_right (by omega)] at h
    have h1 := (List.getElem?_eq_some_iff.mp h).1
    have h2 : i - l.length = 0 := by simp only [List.length_cons, List.length_nil] at h1; omega
    rw [h2] at h
    exact Or.inr ⟨by omega, (Option.some.inj h).symm⟩
theorem app_in {α : Type} {l : List α} {i : Nat} {x y : α} (h : l[i]? = some y) : (l ++ [x])[i]? = some y := by
  rw [List.getElem?_append_left (List.getElem?_eq_some_iff.mp h).1]; exact h
theorem dg_app {D : List dnT} {e : dnT} {k : Nat} : dg (D ++ [e]) k = if k = D.length then e else dg D k := by
  unfold dg
  by_cases hk : k < D.length
  · rw [if_neg (by omega), List.getD_eq_getElem?_getD, List.getElem?_append_left hk, List.getD_eq_getElem?_getD]
  · by_cases e1 : k = D.length
    · subst e1
      rw [if_pos rfl, List.getD_eq_getElem?_getD, List.getElem?_append_right (Nat.le_refl _), Nat.sub_self]; rfl
    · rw [if_neg e1, List.getD_eq_getElem?_getD, List.getD_eq_getElem?_getD, List.getElem?_eq_none (by rw [List.length_append]; show D.length + 1 ≤ k; omega), List.getElem?_eq_none (by omega)]
theorem dg_out {D : List dnT} {k : Nat} (h : D.length ≤ k) : dg D k = (-1, []) := by
  unfold dg; rw [List.getD_eq_getElem?_getD, List.getElem?_eq_none h]; rfl
theorem cI_app {n0 : Nat} {C : List cmT} {D : List dnT} {l : cmT} (h : cI n0 C D) (h3 : C.length < 300) (hg : l.1 < n0) (hd : l.2.2.2.2 = 0 ∨ ∃ p l', l.2.2.1 = nI p ∧ p < C.length ∧ C[p]? = some l' ∧ l.2.2.2.2 = l'.2.2.2.2 + 1) : cI n0 (C ++ [l]) D := by
  obtain ⟨a, b, c, e⟩ := h
  refine ⟨by rw [List.length_append]; show C.length + 1 ≤ 300; omega, by rw [List.length_append]; omega, fun k y hk => ?_, e⟩
  rcases app_old hk with ⟨hk, hy⟩ | ⟨rfl, rfl⟩
  · obtain ⟨c1, c2, c3⟩ := c k y hy
    refine ⟨c1, c2, c3.imp id ?_⟩
    rintro ⟨p, l', q1, q2, q3, q4⟩
    exact ⟨p, l', q1, q2, app_in q3, q4⟩
  · refine ⟨hg, ?_, hd.imp id ?_⟩
    · rcases hd with q | ⟨p, l', q1, q2, q3, q4⟩
      · omega
      · have := (c p l' q3).2.1; omega
    · rintro ⟨p, l', q1, q2, q3, q4⟩
      exact ⟨p, l', q1, q2, app_in q3, q4⟩
theorem cI_D {n0 : Nat} {C : List cmT} {D : List dnT} {e : dnT} (h : cI n0 C D) (h3 : D.length < C.length) (hp : e.2.length ≤ 30) : cI n0 C (D ++ [e]) := by
  obtain ⟨a, b, c, f⟩ := h
  refine ⟨a, by rw [List.length_append]; show D.length + 1 ≤ _; omega, c, fun k => ?_⟩
  rw [dg_app]
  split
  · exact hp
  · exact f k
theorem lgC_le {C : List cmT} {m : Nat} (h : ∀ (k : Nat) (l : cmT), C[k]? = some l → l.2.2.2.2 ≤ m) : lgC C ≤ m := by
  unfold lgC
  have : ∀ (C : List cmT) (a : Nat), a ≤ m → (∀ l ∈ C, l.2.2.2.2 ≤ m) → C.foldl (fun a l => max a l.2.2.2.2) a ≤ m := by
    intro C
    induction C with
    | nil => intro a ha _; exact ha
    | cons l C ih => intro a ha hl; exact ih _ (by have := hl l List.mem_cons_self; show max a l.2.2.2.2 ≤ m; omega) (fun z hz => hl z (List.mem_cons_of_mem _ hz))
  refine this C 0 (Nat.zero_le _) (fun l hl => ?_)
  obtain ⟨k, hk⟩ := List.getElem?_of_mem hl
  exact h k l hk
theorem cI_lg {n0 : Nat} {C : List cmT} {D : List dnT} (h : cI n0 C D) : lgC C ≤ 300 := lgC_le (fun k l hk => by
  have := (h.2.2.1 k l hk).2.1
  have := (List.getElem?_eq_some_iff.mp hk).1
  have := h.1
  omega)
theorem ff_out {p : Nat → Bool} {q k : Nat} (h : ff p q k = none) : ∀ j, k ≤ j → j < k + q → p j = false := ff_none h
theorem oI_m1 {o : Option Nat} (h : ∀ k, o = some k → k < 2147483648) : oI o = -1 ↔ o = none := by
  cases o with
  | none => exact ⟨fun _ => rfl, fun _ => rfl⟩
  | some k =>
    refine ⟨fun q => ?_, fun q => by cases q⟩
    have h2 := nI_nn (a := k) (h k rfl)
    rw [show nI k = -1 from q] at h2
    exact absurd (by decide) h2
theorem fnd_lt {C : List cmT} {g : Nat} {S : Int32} {k : Nat} (h : fnd C g S = some k) : k < C.length := by have := ff_in h; omega
/-- the reference's cells -/
def sr (s : sT) (b : Nat) (C : List cmT) (D : List dnT) : Prop := s.1 187 (b + 186) = nI C.length ∧ (∀ k l, C[k]? = some l → s.1 187 (b + 187 + k) = nI l.1 ∧ s.1 187 (b + 487 + k) = l.2.1 ∧ s.1 215 k = l.2.2.1 ∧ s.1 216 k = l.2.2.2.1 ∧ s.1 217 k = nI l.2.2.2.2) ∧ (∀ k, k < C.length → s.1 187 (b + 787 + k) = (dg D k).1 ∧ s.1 187 (b + 1087 + k) = nI (dg D k).2.length ∧ ∀ j p, (dg D k).2[j]? = some p → s.1 187 (b + 1387 + 30 * k + j) = nI p) ∧ s.1 187 (b + 10387) = nI (lgC C)
def fW (b : Nat) (s s' : sT) : Prop := s'.2 = s.2 ∧ (∀ z, z ≠ 187 → ¬ (215 ≤ z ∧ z ≤ 217) → s'.1 z = s.1 z) ∧ ∀ j, (j < b + 186 ∨ b + 10689 ≤ j) → s'.1 187 j = s.1 187 j
theorem fW_refl (b : Nat) (s : sT) : fW b s s := ⟨rfl, fun _ _ _ => rfl, fun _ _ => rfl⟩
theorem fW_trans {b : Nat} {s s1 s2 : sT} (h1 : fW b s s1) (h2 : fW b s1 s2) : fW b s s2 := ⟨h2.1.trans h1.1, fun z a c => (h2.2.1 z a c).trans (h1.2.1 z a c), fun j a => (h2.2.2 j a).trans (h1.2.2 j a)⟩
theorem fW_put {b : Nat} {s s1 : sT} {c k : Nat} {v : Int32} (h : fW b s s1) (hc : (c = 187 ∧ b + 186 ≤ k ∧ k < b + 10689) ∨ (215 ≤ c ∧ c ≤ 217)) : fW b s (pV s1 c k v) := by
  refine ⟨h.1, fun z a c' => ?_, fun j a => ?_⟩
  · rw [show (pV s1 c k v).1 z = s1.1 z from funext fun j => by rw [pV_1, if_neg (by omega)]]; exact h.2.1 z a c'
  · rw [pV_1, if_neg (by omega)]; exact h.2.2 j a
def rT (s : sT) (T : List Cond) (X0 X1 : Cond) : Prop := tb s T ∧ T.length ≤ 1500 ∧ rS s T 0 X0 ∧ rS s T 1 X1
theorem rT_fW {b : Nat} {s s' : sT} {T : List Cond} {X0 X1 : Cond} (h : rT s T X0 X1) (f : fW b s s') : rT s' T X0 X1 := by
  obtain ⟨⟨hM, ⟨off, hN⟩, hs⟩, h2, h3, h4⟩ := h
  have o : ∀ z, z ≠ 187 → z < 215 → s'.1 z = s.1 z := fun z a c => f.2.1 z a (by omega)
  refine ⟨⟨by rw [f.1]; exact hM, ⟨off, rN_off hN (by rw [o 186 (by decide) (by decide)]) (by rw [o 186 (by decide) (by decide)]) (fun z a b => o z (by omega) (by omega))⟩, hs⟩, h2, ?_, ?_⟩
  · unfold rS tmO rowO at h3 ⊢
    rw [o 210 (by decide) (by decide), o 211 (by decide) (by decide), o 212 (by decide) (by decide), o 213 (by decide) (by decide), o 214 (by decide) (by decide)]
    exact h3
  · unfold rS tmO rowO at h4 ⊢
    rw [o 210 (by decide) (by decide), o 211 (by decide) (by decide), o 212 (by decide) (by decide), o 213 (by decide) (by decide), o 214 (by decide) (by decide)]
    exact h4
section SR
variable {L : Nat} {xs : Nat → Int32} {d : Nat} {s : sT} {K : Option Int32 → sT → Prop} {T : List Cond} {X0 X1 : Cond} {b n0 : Nat} {C : List cmT} {D : List dnT}
theorem r_lineWith {g : Nat} {S : Int32} (hM : rM s.2) (h : sr s b C D) (hC : cI n0 C D) (hb : b ≤ 10689) (hg : g < 1000) (hn : n0 ≤ 1000) (hK : K (some (oI (fnd C g S))) s) : tT (yY L xs) d 185 0 [.ref 186, .int (nI b), .int (nI g), .int S, .null] [] s K := by
  obtain ⟨h1, h2, h3, h4⟩ := h
  have hl := hC.1
  have loop : ∀ q k, q + k = C.length → K (some (oI (ff (fit C g S) q k))) s → tT (yY L xs) d 185 3 [.ref 186, .int (nI b), .int (nI g), .int S, .int (nI k)] [] s K := by
    intro q
    induction q with
    | zero =>
      intro k hk hK
      refine b_185_3 ⟨187, ⟨so_186, rm_186_0 hM⟩, 42882, ?_⟩
      rw [nI_lit 186, nJ_add, nI_cl (show b + 186 < 2147483648 by omega), h1, if_pos (by rw [nJ_le (by omega) (by omega)]; omega)]
      exact ⟨⟨sa_187, inR_nI (by omega) (by decide)⟩, hK⟩
    | succ q ih =>
      intro k hk hK
      have hy := List.getElem?_eq_getElem (show k < C.length by omega)
      generalize C[k] = l at hy
      obtain ⟨e1, e2, -⟩ := h2 k l hy
      have hg2 := (hC.2.2.1 k l hy).1
      have efit : fit C g S k = decide (l.1 = g ∧ l.2.1 &&& (S ^^^ -1) = 0) := by unfold fit; rw [getD_some hy]
      rw [ff_s] at hK
      have nxt : fit C g S k = false → tT (yY L xs) d 185 58 [.ref 186, .int (nI b), .int (nI g), .int S, .int (nI k)] [] s K := fun e => by
        rw [e, if_neg (by decide)] at hK
        refine b_185_58 ?_
        rw [← nI_succ k]
        exact ih (k + 1) (by omega) hK
      refine b_185_3 ⟨187, ⟨so_186, rm_186_0 hM⟩, 42882, ?_⟩
      rw [nI_lit 186, nJ_add, nI_cl (show b + 186 < 2147483648 by omega), h1, if_neg (by rw [nJ_le (by omega) (by omega)]; omega)]
      refine ⟨⟨sa_187, inR_nI (by omega) (by decide)⟩, 187, ⟨so_186, rm_186_0 hM⟩, 42882, ?_⟩
      rw [nI_lit 187, nJ_add, nJ_add, nI_cl (show b + 187 + k < 2147483648 by omega), e1]
      refine ⟨⟨sa_187, inR_nI (by omega) (by decide)⟩, ?_⟩
      by_cases q1 : l.1 = g
      · rw [if_neg (fun q => q (by rw [q1]))]
        refine ⟨187, ⟨so_186, rm_186_0 hM⟩, 42882, ?_⟩
        rw [nI_lit 487, nJ_add, nJ_add, nI_cl (show b + 487 + k < 2147483648 by omega), e2]
        refine ⟨⟨sa_187, inR_nI (by omega) (by decide)⟩, ?_⟩
        by_cases q2 : l.2.1 &&& (S ^^^ -1) = 0
        · rw [if_neg (fun q => q q2)]
          rw [efit, decide_eq_true ⟨q1, q2⟩, if_pos rfl] at hK
          exact hK
        · rw [if_pos q2]
          exact nxt (by rw [efit]; exact decide_eq_false (fun q => q2 q.2))
      · rw [if_pos (fun q => q1 ((nJ_eq (by omega) (by omega)).mp q))]
        exact nxt (by rw [efit]; exact decide_eq_false (fun q => q1 q.1))
  exact b_185_0 (loop _ 0 rfl hK)
theorem r_newLine {g x : Nat} {S : Int32} {par : Int32} {dp : Nat} (hM : rM s.2) (h : sr s b C D) (hC : cI n0 C D) (hb : b ≤ 10689) (h3 : C.length < 300) (hpar : (par = -1 ∧ dp = 0) ∨ ∃ p l', par = nI p ∧ p < C.length ∧ C[p]? = some l' ∧ dp = l'.2.2.2.2 + 1)
    (hK : ∀ s', fW b s s' → s'.1 187 (b + 10388) = s.1 187 (b + 10388) → (∀ k j, k < C.length → j < 30 → s'.1 187 (b + 1387 + 30 * k + j) = s.1 187 (b + 1387 + 30 * k + j)) → sr s' b (C ++ [(g, S, par, nI x, dp)]) D → K none s') : tT (yY L xs) d 186 0 [.ref 186, .int (nI b), .int (nI g), .int S, .int par, .int (nI x), .null] [] s K := by
  obtain ⟨h1, h2, h3', h4⟩ := h
  have hl := hC.1
  have hlg := cI_lg hC
  have hDl := hC.2.1
  refine b_186_0 ⟨187, ⟨so_186, rm_186_0 hM⟩, 42882, ?_⟩
  rw [nI_lit 186, nI_lit 187, nI_lit 487, nI_lit 787, nI_lit 1087, nJ_add, nJ_add, nJ_add, nJ_add, nJ_add, nI_cl (show b + 186 < 2147483648 by omega), h1, nJ_add, nJ_add, nJ_add, nJ_add, nI_cl (show b + 187 + C.length < 2147483648 by omega), nI_cl (show b + 487 + C.length < 2147483648 by omega), nI_cl (show b + 787 + C.length < 2147483648 by omega), nI_cl (show b + 1087 + C.length < 2147483648 by omega), nI_cl (show C.length < 2147483648 by omega)]
  refine ⟨⟨sa_187, inR_nI (by omega) (by decide)⟩, 187, ⟨so_186, rm_186_0 hM⟩, 42882, ⟨sa_187, inR_nI (by omega) (by decide)⟩, 187, ⟨so_186, rm_186_0 hM⟩, 42882, ⟨sa_187, inR_nI (by omega) (by decide)⟩, 187, ⟨so_186, rm_186_0 hM⟩, 42882, ⟨sa_187, inR_nI (by omega) (by decide)⟩, 187, ⟨so_186, rm_186_0 hM⟩, 42882, ⟨sa_187, inR_nI (by omega) (by decide)⟩, 215, ⟨so_186, rm_186_39 hM⟩, 301, ⟨sa_215, inR_nI (by omega) (by decide)⟩, 216, ⟨so_186, rm_186_40 hM⟩, 301, ⟨sa_216, inR_nI (by omega) (by decide)⟩, 217, ⟨so_186, rm_186_41 hM⟩, ?_⟩
  have e187 : ∀ j, (pV (pV (pV (pV (pV (pV s 187 (b + 187 + C.length) (nI g)) 187 (b + 487 + C.length) S) 187 (b + 787 + C.length) (-1)) 187 (b + 1087 + C.length) 0) 215 C.length par) 216 C.length (nI x)).1 187 j = if j = b + 187 + C.length then nI g else if j = b + 487 + C.length then S else if j = b + 787 + C.length then -1 else if j = b + 1087 + C.length then 0 else s.1 187 j := fun j => by
    rw [pV_1, if_neg (by omega), pV_1, if_neg (by omega), pV_1]
    by_cases a1 : j = b + 1087 + C.length
    · rw [if_pos ⟨rfl, a1⟩, if_neg (by omega), if_neg (by omega), if_neg (by omega), if_pos a1]
    rw [if_neg (fun q => a1 q.2), pV_1]
    by_cases a2 : j = b + 787 + C.length
    · rw [if_pos ⟨rfl, a2⟩, if_neg (by omega), if_neg (by omega), if_pos a2]
    rw [if_neg (fun q => a2 q.2), pV_1]
    by_cases a3 : j = b + 487 + C.length
    · rw [if_pos ⟨rfl, a3⟩, if_neg (by omega), if_pos a3]
    rw [if_neg (fun q => a3 q.2), pV_1]
    by_cases a4 : j = b + 187 + C.length
    · rw [if_pos ⟨rfl, a4⟩, if_pos a4]
    rw [if_neg (fun q => a4 q.2), if_neg a4, if_neg a3, if_neg a2, if_neg a1]
  have e215 : ∀ j, (pV (pV (pV (pV (pV (pV s 187 (b + 187 + C.length) (nI g)) 187 (b + 487 + C.length) S) 187 (b + 787 + C.length) (-1)) 187 (b + 1087 + C.length) 0) 215 C.length par) 216 C.length (nI x)).1 215 j = if j = C.length then par else s.1 215 j := fun j => by
    rw [pV_1, if_neg (by omega), pV_1]
    by_cases a1 : j = C.length
    · rw [if_pos ⟨rfl, a1⟩, if_pos a1]
    · rw [if_neg (fun q => a1 q.2), if_neg a1, pV_1, if_neg (by omega), pV_1, if_neg (by omega), pV_1, if_neg (by omega), pV_1, if_neg (by omega)]
  have e216 : ∀ j, (pV (pV (pV (pV (pV (pV s 187 (b + 187 + C.length) (nI g)) 187 (b + 487 + C.length) S) 187 (b + 787 + C.length) (-1)) 187 (b + 1087 + C.length) 0) 215 C.length par) 216 C.length (nI x)).1 216 j = if j = C.length then nI x else s.1 216 j := fun j => by
    rw [pV_1]
    by_cases a1 : j = C.length
    · rw [if_pos ⟨rfl, a1⟩, if_pos a1]
    · rw [if_neg (fun q => a1 q.2), if_neg a1, pV_1, if_neg (by omega), pV_1, if_neg (by omega), pV_1, if_neg (by omega), pV_1, if_neg (by omega), pV_1, if_neg (by omega)]
  have e217 : ∀ j, (pV (pV (pV (pV (pV (pV s 187 (b + 187 + C.length) (nI g)) 187 (b + 487 + C.length) S) 187 (b + 787 + C.length) (-1)) 187 (b + 1087 + C.length) 0) 215 C.length par) 216 C.length (nI x)).1 217 j = s.1 217 j := fun j => by
    rw [pV_1, if_neg (by omega), pV_1, if_neg (by omega), pV_1, if_neg (by omega), pV_1, if_neg (by omega), pV_1, if_neg (by omega), pV_1, if_neg (by omega)]
  have f1 : fW b s (pV (pV (pV (pV (pV (pV s 187 (b + 187 + C.length) (nI g)) 187 (b + 487 + C.length) S) 187 (b + 787 + C.length) (-1)) 187 (b + 1087 + C.length) 0) 215 C.length par) 216 C.length (nI x)) := fW_put (fW_put (fW_put (fW_put (fW_put (fW_put (fW_refl b s) (by omega)) (by omega)) (by omega)) (by omega)) (by omega)) (by omega)
  generalize (pV (pV (pV (pV (pV (pV s 187 (b + 187 + C.length) (nI g)) 187 (b + 487 + C.length) S) 187 (b + 787 + C.length) (-1)) 187 (b + 1087 + C.length) 0) 215 C.length par) 216 C.length (nI x)) = s1 at e187 e215 e216 e217 f1 ⊢
  have hM1 : rM s1.2 := by rw [f1.1]; exact hM
  have hdp : dp ≤ 300 := by
    rcases hpar with q | ⟨p, l', q1, q2, q3, q4⟩
    · omega
    · have := (hC.2.2.1 p l' q3).2.1; omega
  have go : tT (yY L xs) d 186 111 [.ref 186, .int (nI b), .int (nI g), .int S, .int par, .int (nI x), .int (nI C.length)] [.int (nI dp), .int (nI C.length), .ref 217] s1 K := by
    refine b_186_111 ⟨301, ⟨sa_217, inR_nI (by omega) (by decide)⟩, 187, ⟨so_186, rm_186_0 hM1⟩, 217, ⟨so_186, rm_186_41 hM1⟩, 301, ⟨sa_217, inR_nI (by omega) (by decide)⟩, 187, ⟨so_186, rm_186_0 hM1⟩, 42882, ?_⟩
    rw [nI_lit 10387, nJ_add, nI_cl (show C.length < 2147483648 by omega), nI_cl (show b + 10387 < 2147483648 by omega)]
    have q1 : (pV s1 217 C.length (nI dp)).1 217 C.length = nI dp := by rw [pV_1, if_pos ⟨rfl, rfl⟩]
    have q2 : ∀ j, (pV s1 217 C.length (nI dp)).1 187 j = s1.1 187 j := fun j => by rw [pV_1, if_neg (by omega)]
    have q3 : ∀ z, z ≠ 217 → (pV s1 217 C.length (nI dp)).1 z = s1.1 z := fun z hz => funext fun j => by rw [pV_1, if_neg (by omega)]
    have q4 : ∀ j, j ≠ C.length → (pV s1 217 C.length (nI dp)).1 217 j = s1.1 217 j := fun j hj => by rw [pV_1, if_neg (by omega)]
    have f2 : fW b s (pV s1 217 C.length (nI dp)) := fW_put f1 (by omega)
    generalize pV s1 217 C.length (nI dp) = s2 at q1 q2 q3 q4 f2 ⊢
    have hM2 : rM s2.2 := by rw [f2.1]; exact hM
    have elg : s2.1 187 (b + 10387) = nI (lgC C) := by rw [q2, e187, if_neg (by omega), if_neg (by omega), if_neg (by omega), if_neg (by omega)]; exact h4
    rw [q1, elg]
    refine ⟨⟨sa_187, inR_nI (by omega) (by decide)⟩, ?_⟩
    have fin : tT (yY L xs) d 186 161 [.ref 186, .int (nI b), .int (nI g), .int S, .int par, .int (nI x), .int (nI C.length)] [.int (nI (max (lgC C) dp)), .int (nI (b + 10387)), .ref 187] s2 K := by
      refine b_186_161 ⟨42882, ⟨sa_187, inR_nI (by omega) (by decide)⟩, 187, ⟨so_186, rm_186_0 hM2⟩, 42882, ?_⟩
      rw [nI_lit 186, nJ_add, nI_cl (show b + 10387 < 2147483648 by omega), nI_cl (show b + 186 < 2147483648 by omega)]
      refine ⟨⟨sa_187, inR_nI (by omega) (by decide)⟩, 42882, ⟨sa_187, inR_nI (by omega) (by decide)⟩, ?_⟩
      have elen : (pV s2 187 (b + 10387) (nI (max (lgC C) dp))).1 187 (b + 186) = nI C.length := by
        rw [pV_1, if_neg (by omega), q2, e187, if_neg (by omega), if_neg (by omega), if_neg (by omega), if_neg (by omega)]; exact h1
      rw [elen, nI_lit 1, nJ_add]
      have z187 : ∀ j, j ≠ b + 186 → j ≠ b + 10387 → (pV (pV s2 187 (b + 10387) (nI (max (lgC C) dp))) 187 (b + 186) (nI (C.length + 1))).1 187 j = s1.1 187 j := fun j a c => by rw [pV_1, if_neg (by omega), pV_1, if_neg (by omega), q2]
      have zo : ∀ z, z ≠ 187 → (pV (pV s2 187 (b + 10387) (nI (max (lgC C) dp))) 187 (b + 186) (nI (C.length + 1))).1 z = s2.1 z := fun z a => funext fun j => by rw [pV_1, if_neg (by omega), pV_1, if_neg (by omega)]
      have zl : (pV (pV s2 187 (b + 10387) (nI (max (lgC C) dp))) 187 (b + 186) (nI (C.length + 1))).1 187 (b + 186) = nI (C.length + 1) := by rw [pV_1, if_pos ⟨rfl, rfl⟩]
      have zg : (pV (pV s2 187 (b + 10387) (nI (max (lgC C) dp))) 187 (b + 186) (nI (C.length + 1))).1 187 (b + 10387) = nI (max (lgC C) dp) := by rw [pV_1, if_neg (by omega), pV_1, if_pos ⟨rfl, rfl⟩]
      have f3 : fW b s (pV (pV s2 187 (b + 10387) (nI (max (lgC C) dp))) 187 (b + 186) (nI (C.length + 1))) := fW_put (fW_put f2 (by omega)) (by omega)
      generalize pV (pV s2 187 (b + 10387) (nI (max (lgC C) dp))) 187 (b + 186) (nI (C.length + 1)) = s3 at z187 zo zl zg f3 ⊢
      have old : ∀ j, j ≠ b + 186 → j ≠ b + 10387 → j ≠ b + 187 + C.length → j ≠ b + 487 + C.length → j ≠ b + 787 + C.length → j ≠ b + 1087 + C.length → s3.1 187 j = s.1 187 j := fun j a1 a2 a3 a4 a5 a6 => by
        rw [z187 j a1 a2, e187, if_neg a3, if_neg a4, if_neg a5, if_neg a6]
      refine hK s3 f3 (old _ (by omega) (by omega) (by omega) (by omega) (by omega) (by omega)) (fun k j hk hj => old _ (by omega) (by omega) (by omega) (by omega) (by omega) (by omega)) ⟨by rw [List.length_append]; exact zl, fun k l hk => ?_, fun k hk => ?_, by rw [lgC_app]; exact zg⟩
      · rcases app_old hk with ⟨hk, hy⟩ | ⟨rfl, rfl⟩
        · obtain ⟨g1, g2, g3, g4, g5⟩ := h2 k l hy
          refine ⟨?_, ?_, ?_, ?_, ?_⟩
          · rw [old _ (by omega) (by omega) (by omega) (by omega) (by omega) (by omega)]; exact g1
          · rw [old _ (by omega) (by omega) (by omega) (by omega) (by omega) (by omega)]; exact g2
          · rw [zo 215 (by decide), q3 215 (by decide), e215, if_neg (by omega)]; exact g3
          · rw [zo 216 (by decide), q3 216 (by decide), e216, if_neg (by omega)]; exact g4
          · rw [zo 217 (by decide), q4 k (by omega), e217]; exact g5
        · refine ⟨?_, ?_, ?_, ?_, ?_⟩
          · rw [z187 _ (by omega) (by omega), e187, if_pos rfl]
          · rw [z187 _ (by omega) (by omega), e187, if_neg (by omega), if_pos rfl]
          · rw [zo 215 (by decide), q3 215 (by decide), e215, if_pos rfl]
          · rw [zo 216 (by decide), q3 216 (by decide), e216, if_pos rfl]
          · rw [zo 217 (by decide)]; exact q1
      · rw [List.length_append] at hk
        have hk : k < C.length + 1 := hk
        by_cases ek : k = C.length
        · subst ek
          rw [dg_out hDl]
          refine ⟨?_, ?_, fun j p q => by cases q⟩
          · rw [z187 _ (by omega) (by omega), e187, if_neg (by omega), if_neg (by omega), if_pos rfl]
          · rw [z187 _ (by omega) (by omega), e187, if_neg (by omega), if_neg (by omega), if_neg (by omega), if_pos rfl]; rfl
        · obtain ⟨g1, g2, g3⟩ := h3' k (by omega)
          have hp30 := hC.2.2.2 k
          refine ⟨?_, ?_, fun j p q => ?_⟩
          · rw [old _ (by omega) (by omega) (by omega) (by omega) (by omega) (by omega)]; exact g1
          · rw [old _ (by omega) (by omega) (by omega) (by omega) (by omega) (by omega)]; exact g2
          · have := (List.getElem?_eq_some_iff.mp q).1
            rw [old _ (by omega) (by omega) (by omega) (by omega) (by omega) (by omega)]; exact g3 j p q
    by_cases hle : dp ≤ lgC C
    · rw [if_pos (by rw [nJ_le (by omega) (by omega)]; exact hle)]
      refine ⟨187, ⟨so_186, rm_186_0 hM2⟩, 42882, ⟨sa_187, inR_nI (by omega) (by decide)⟩, ?_⟩
      rw [elg]
      rw [show max (lgC C) dp = lgC C by omega] at fin
      exact fin
    · rw [if_neg (by rw [nJ_le (by omega) (by omega)]; exact hle)]
      refine ⟨217, ⟨so_186, rm_186_41 hM2⟩, 301, ⟨sa_217, inR_nI (by omega) (by decide)⟩, ?_⟩
      rw [q1]
      rw [show max (lgC C) dp = dp by omega] at fin
      exact fin
  rcases hpar with ⟨rfl, rfl⟩ | ⟨p, l', rfl, q2, q3, rfl⟩
  · rw [if_neg (fun q => q rfl)]
    exact go
  · rw [if_pos (fun q => by have h2 := nI_nn (a := p) (by omega); rw [q] at h2; exact h2 (by decide))]
    refine ⟨217, ⟨so_186, rm_186_41 hM1⟩, 301, ⟨sa_217, inR_nI (by omega) (by decide)⟩, ?_⟩
    rw [nI_cl (show p < 2147483648 by omega), e217, (h2 p l' q3).2.2.2.2, ← nI_succ]
    exact go
end SR
