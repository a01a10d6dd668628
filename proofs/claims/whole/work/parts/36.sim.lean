/-! WHAT CLASS AND REFERENCE HAVE IN COMMON. A text: (length, bytes). -/
abbrev txT : Type := Nat × (Nat → Int32)
/-- what is known of a side: its text; number of terms, shortest, nest, full; the terms' signs; their ends; sets of parts; where parts begin; parts -/
abbrev sdT : Type := txT × (Nat × Int32 × Int32 × Int32) × txT × (Nat → Nat) × (Nat → Int32) × (Nat → Nat) × (Nat → Int32)
/-- lines: (how many, goals, sets, rules), numbers of premises, premises, the longest, the word apart -/
abbrev lnT : Type := (Nat × (Nat → Int32) × (Nat → Int32) × (Nat → Int32)) × (Nat → Nat) × (Nat → Nat → Int32) × Int32 × Option txT
/-- tape, fault, left, right, slots, lines -/
abbrev rmT : Type := txT × Int32 × sdT × sdT × (Nat → sdT) × lnT
def psum (f : Nat → Nat) : Nat → Nat
  | 0 => 0
  | n + 1 => psum f n + f n
def txC (v : Nat → Nat → Int32) (t : Nat) (x : txT) : Prop := v t 1 = nI x.1 ∧ ∀ j, j < x.1 → v (t + 1) j = x.2 j
def txR (a : Nat → Int32) (p : Nat) (x : txT) : Prop := a p = nI x.1 ∧ ∀ j, j < x.1 → a (p + 1 + j) = x.2 j
def sdB (D : sdT) : Prop := D.1.1 ≤ 30 ∧ 1 ≤ D.2.1.1 ∧ D.2.1.1 ≤ 31 ∧ D.2.2.1.1 ≤ 4960 ∧ D.2.2.2.2.2.1 (3 * D.2.1.1) ≤ 961
def sdC (v : Nat → Nat → Int32) (c : Nat) (D : sdT) : Prop :=
  txC v (c + 1) D.1 ∧ (v c 6 = nI D.2.1.1 ∧ v c 7 = D.2.1.2.1 ∧ v c 8 = D.2.1.2.2.1 ∧ v c 9 = D.2.1.2.2.2) ∧ txC v (c + 3) D.2.2.1 ∧ (∀ i, i < D.2.1.1 → v (c + 5) i = nI (D.2.2.2.1 i)) ∧ (∀ i, i < 3 * D.2.1.1 → v (c + 6) i = D.2.2.2.2.1 i) ∧
  (∀ i, i ≤ 3 * D.2.1.1 → v (c + 7) i = nI (D.2.2.2.2.2.1 i)) ∧ ∀ i, i < D.2.2.2.2.2.1 (3 * D.2.1.1) → v (c + 8) i = D.2.2.2.2.2.2 i
def apC (v : Nat → Nat → Int32) (l : Nat) (x : Option txT) : Prop := match x with
  | none => v l 11 = 0
  | some q => v l 11 = 1 ∧ txC v (l + 7) q
def apR (a : Nat → Int32) (b : Nat) (x : Option txT) : Prop := match x with
  | none => a (b + 10388) = -1
  | some q => a (b + 10388) = nI q.1 ∧ ∀ j, j < q.1 → a (b + 10389 + j) = q.2 j
def lnB (N : lnT) : Prop := N.1.1 ≤ 300 ∧ (∀ i, i < N.1.1 → N.2.1 i ≤ 30) ∧ ∀ q, N.2.2.2.2 = some q → q.1 ≤ 300
def lnC (v : Nat → Nat → Int32) (l : Nat) (N : lnT) : Prop :=
  (v l 8 = nI N.1.1 ∧ v l 9 = nI (psum N.2.1 N.1.1) ∧ v l 10 = N.2.2.2.1) ∧ (∀ i, i < N.1.1 → v (l + 1) i = N.1.2.1 i) ∧ (∀ i, i < N.1.1 → v (l + 2) i = N.1.2.2.1 i) ∧ (∀ i, i < N.1.1 → v (l + 3) i = N.1.2.2.2 i) ∧ (∀ i, i < N.1.1 → v (l + 5) i = nI (N.2.1 i)) ∧
  (∀ i, i < N.1.1 → 0 < N.2.1 i → v (l + 4) i = nI (psum N.2.1 i)) ∧ (∀ i, i < N.1.1 → ∀ j, j < N.2.1 i → v (l + 6) (psum N.2.1 i + j) = N.2.2.1 i j) ∧ (∃ q, q ≤ 300 ∧ v (l + 7) 1 = nI q) ∧ apC v l N.2.2.2.2
def lnR (a : Nat → Int32) (b : Nat) (N : lnT) : Prop :=
  a (b + 186) = nI N.1.1 ∧ (∀ i, i < N.1.1 → a (b + 187 + i) = N.1.2.1 i) ∧ (∀ i, i < N.1.1 → a (b + 487 + i) = N.1.2.2.1 i) ∧ (∀ i, i < N.1.1 → a (b + 787 + i) = N.1.2.2.2 i) ∧ (∀ i, i < N.1.1 → a (b + 1087 + i) = nI (N.2.1 i)) ∧
  (∀ i, i < N.1.1 → ∀ j, j < N.2.1 i → a (b + 1387 + 30 * i + j) = N.2.2.1 i j) ∧ a (b + 10387) = N.2.2.2.1 ∧ apR a b N.2.2.2.2
def rmC (v : Nat → Nat → Int32) (c0 c1 w : Nat) (R : rmT) : Prop :=
  txC v (w + 1) R.1 ∧ v w 4 = R.2.1 ∧ sdC v c0 R.2.2.1 ∧ sdC v c1 R.2.2.2.1 ∧ (∀ k, k < 4 → txC v (w + 33 + 2 * k) (R.2.2.2.2.1 k).1) ∧ lnC v (w + 23) R.2.2.2.2.2
def rmR (a : Nat → Int32) (b : Nat) (R : rmT) : Prop :=
  txR a b R.2.2.1.1 ∧ txR a (b + 31) R.2.2.2.1.1 ∧ (∀ k, k < 4 → txR a (b + 62 + 31 * k) (R.2.2.2.2.1 k).1) ∧ lnR a b R.2.2.2.2.2
/-- the tape: at most 60 bytes, none of them -1 -/
def tpB (x : txT) : Prop := x.1 ≤ 60 ∧ ∀ j, j < x.1 → x.2 j ≠ -1
def rmB (GD : sdT → Prop) (R : rmT) : Prop := tpB R.1 ∧ GD R.2.2.1 ∧ GD R.2.2.2.1 ∧ (∀ k, k < 4 → GD (R.2.2.2.2.1 k)) ∧ lnB R.2.2.2.2.2
/-- the cells of the two sides now -/
def cSides (ρ : Nat → Nat → Option Nat) (c0 c1 : Nat) : Prop := ρ 64 0 = some c0 ∧ ρ 64 1 = some c1 ∧ ((c0 = 65 ∧ c1 = 74) ∨ (c0 = 74 ∧ c1 = 65))
/-- an image of both -/
def imOK (GD : sdT → Prop) (v : Nat → Nat → Int32) (k : Nat) (I : Option rmT) : Prop := match I with
  | none => v 185 k = 0 ∧ v 189 k = 0
  | some R => v 185 k = 1 ∧ v 189 k = 1 ∧ rmC v (103 + 41 * k + 4) (103 + 41 * k + 13) (103 + 41 * k) R ∧ rmR (v 187) (21378 + 10752 * k) R ∧ rmB GD R ∧ (∀ j, j < R.1.1 → v 187 (21378 + 10752 * k + 10689 + j) = R.1.2 j) ∧ v 187 (21378 + 10752 * k + 10749) = nI R.1.1 ∧ v 187 (21378 + 10752 * k + 10750) = R.2.1
/-- the reference's tape and fault -/
def tpR (v : Nat → Nat → Int32) (R : rmT) : Prop := v 186 3 = nI R.1.1 ∧ (∀ j, j < R.1.1 → v 188 j = R.1.2 j) ∧ v 186 4 = R.2.1
/-- the class's half, the reference's half -/
def simC (s : sT) (R : rmT) (I : Nat → Option rmT) : Prop := rP s.2 ∧ (∃ c0 c1, cSides s.2 c0 c1 ∧ rmC s.1 c0 c1 61 R) ∧ ∀ k, k < 2 → match I k with
  | none => s.1 185 k = 0
  | some R' => s.1 185 k = 1 ∧ rmC s.1 (103 + 41 * k + 4) (103 + 41 * k + 13) (103 + 41 * k) R'
def simR (s : sT) (R : rmT) (I : Nat → Option rmT) : Prop := rM s.2 ∧ rmR (s.1 187) 0 R ∧ tpR s.1 R ∧ ∀ k, k < 2 → match I k with
  | none => s.1 189 k = 0
  | some R' => s.1 189 k = 1 ∧ rmR (s.1 187) (21378 + 10752 * k) R' ∧ (∀ j, j < R'.1.1 → s.1 187 (21378 + 10752 * k + 10689 + j) = R'.1.2 j) ∧ s.1 187 (21378 + 10752 * k + 10749) = nI R'.1.1 ∧ s.1 187 (21378 + 10752 * k + 10750) = R'.2.1
/-- the tree's atoms: 0, 1, a, b, c -/
def tA0 (v : Nat → Nat → Int32) : Prop := ∀ k, k < 5 → v 2 k = 0 ∧ v 4 k = 0 ∧ v 6 k = 0 ∧ v 5 k = if k = 0 then -1 else if k = 1 then 0 else 1
/-- and the first row of parts on a side for trials begins at 0 -/
def tA (v : Nat → Nat → Int32) : Prop := tA0 v ∧ v 26 0 = 0 ∧ v 35 0 = 0
theorem tA_off {v v' : Nat → Nat → Int32} (h : tA v) (he : ∀ i, (i < 9 ∨ i = 26 ∨ i = 35) → v' i = v i) : tA v' := by
  refine ⟨fun k hk => ?_, ?_, ?_⟩
  · rw [he 2 (by decide), he 4 (by decide), he 5 (by decide), he 6 (by decide)]
    exact h.1 k hk
  · rw [he 26 (by decide)]; exact h.2.1
  · rw [he 35 (by decide)]; exact h.2.2
def Sim (GD : sdT → Prop) (s : sT) : Prop := ∃ (R : rmT) (I : Nat → Option rmT), simC s R I ∧ simR s R I ∧ rmB GD R ∧ (∀ k R', k < 2 → I k = some R' → rmB GD R') ∧ tA s.1
/-- the class's half does not see the reference's cells, nor the other way about -/
theorem simR_off {s s' : sT} {R : rmT} {I : Nat → Option rmT} (h : simR s R I) (he : ∀ i, 186 ≤ i → s'.1 i = s.1 i ∧ s'.2 i = s.2 i) : simR s' R I := by
  unfold simR rM tpR at h ⊢
  simp only [(he 186 (by decide)).1, (he 186 (by decide)).2, (he 187 (by decide)).1, (he 188 (by decide)).1, (he 189 (by decide)).1]
  exact h
/-- what a call of the class does -/
def doC (Y : sY) (D yc : Nat) (ec : List Value) (s : sT) (R : rmT) (I : Nat → Option rmT) (x : Option Int32) (R' : rmT) (I' : Nat → Option rmT) : Prop := ∀ K : Option Int32 → sT → Prop, (∀ s', simC s' R' I' → (∀ i, (186 ≤ i ∨ i < 9 ∨ i = 26 ∨ i = 35) → s'.1 i = s.1 i ∧ s'.2 i = s.2 i) → K x s') → tT Y D yc 0 ec [] s K
def doR (Y : sY) (D ym : Nat) (em : List Value) (s : sT) (R : rmT) (I : Nat → Option rmT) (x : Option Int32) (R' : rmT) (I' : Nat → Option rmT) : Prop := ∀ K : Option Int32 → sT → Prop, (∀ s', simR s' R' I' → (∀ i, i < 186 → s'.1 i = s.1 i ∧ s'.2 i = s.2 i) → K x s') → tT Y D ym 0 em [] s K
theorem simC_rho {s : sT} {R : rmT} {I : Nat → Option rmT} (h : simC s R I) : rP s.2 := h.1
theorem rP_off {ρ ρ' : Nat → Nat → Option Nat} (h : rP ρ) (he : ∀ i, i < 186 → ρ' i = ρ i) : rP ρ' := by
  unfold rP at h ⊢
  simp only [he, Nat.reduceLT]
  exact h
theorem txC_off {v v' : Nat → Nat → Int32} {t : Nat} {x : txT} (h : txC v t x) (h1 : v' t = v t) (h2 : v' (t + 1) = v (t + 1)) : txC v' t x := by
  unfold txC at h ⊢
  rw [h1, h2]; exact h
theorem sdC_off {v v' : Nat → Nat → Int32} {c : Nat} {D : sdT} (h : sdC v c D) (he : ∀ i, c ≤ i → i < c + 9 → v' i = v i) : sdC v' c D := by
  unfold sdC txC at h ⊢
  rw [he c (by omega) (by omega), he (c + 1) (by omega) (by omega), he (c + 1 + 1) (by omega) (by omega), he (c + 3) (by omega) (by omega), he (c + 3 + 1) (by omega) (by omega), he (c + 5) (by omega) (by omega), he (c + 6) (by omega) (by omega), he (c + 7) (by omega) (by omega), he (c + 8) (by omega) (by omega)]
  exact h
theorem lnC_off {v v' : Nat → Nat → Int32} {l : Nat} {N : lnT} (h : lnC v l N) (he : ∀ i, l ≤ i → i < l + 9 → v' i = v i) : lnC v' l N := by
  unfold lnC apC txC at h ⊢
  rw [he l (by omega) (by omega), he (l + 1) (by omega) (by omega), he (l + 2) (by omega) (by omega), he (l + 3) (by omega) (by omega), he (l + 4) (by omega) (by omega), he (l + 5) (by omega) (by omega), he (l + 6) (by omega) (by omega), he (l + 7) (by omega) (by omega), he (l + 7 + 1) (by omega) (by omega)]
  exact h
/-- the room w with sides within it -/
theorem rmC_off {v v' : Nat → Nat → Int32} {c0 c1 w : Nat} {R : rmT} (h : rmC v c0 c1 w R) (hc0 : w ≤ c0 ∧ c0 + 9 ≤ w + 41) (hc1 : w ≤ c1 ∧ c1 + 9 ≤ w + 41) (he : ∀ i, w ≤ i → i < w + 41 → v' i = v i) : rmC v' c0 c1 w R := by
  obtain ⟨h1, h2, h3, h4, h5, h6⟩ := h
  refine ⟨txC_off h1 (he _ (by omega) (by omega)) (he _ (by omega) (by omega)), ?_, sdC_off h3 (fun i _ _ => he i (by omega) (by omega)), sdC_off h4 (fun i _ _ => he i (by omega) (by omega)), fun k hk => txC_off (h5 k hk) (he _ (by omega) (by omega)) (he _ (by omega) (by omega)), lnC_off h6 (fun i _ _ => he i (by omega) (by omega))⟩
  rw [he w (by omega) (by omega)]; exact h2
theorem simC_off {s s' : sT} {R : rmT} {I : Nat → Option rmT} (h : simC s R I) (he : ∀ i, i < 186 → s'.1 i = s.1 i ∧ s'.2 i = s.2 i) : simC s' R I := by
  obtain ⟨h1, ⟨c0, c1, hc, h2⟩, h3⟩ := h
  refine ⟨rP_off h1 (fun i hi => (he i hi).2), ⟨c0, c1, ?_, ?_⟩, fun k hk => ?_⟩
  · unfold cSides at hc ⊢
    rw [(he 64 (by decide)).2]; exact hc
  · refine rmC_off h2 ?_ ?_ (fun i _ _ => (he i (by omega)).1) <;> rcases hc.2.2 with ⟨rfl, rfl⟩ | ⟨rfl, rfl⟩ <;> decide
  · have := h3 k hk
    cases hI : I k with
    | none => rw [hI] at this; simp only at this ⊢; rw [(he 185 (by decide)).1]; exact this
    | some R' =>
      rw [hI] at this
      simp only at this ⊢
      rw [(he 185 (by decide)).1]
      exact ⟨this.1, rmC_off this.2 ⟨by omega, by omega⟩ ⟨by omega, by omega⟩ (fun i _ _ => (he i (by omega)).1)⟩
/-- a pair of calls out of its halves -/
theorem pair_of {GD : sdT → Prop} {Y : sY} {D yc ym : Nat} {ec em : List Value} {ret : Bool} (h : ∀ s R I, simC s R I → simR s R I → rmB GD R → (∀ k R', k < 2 → I k = some R' → rmB GD R') → ∃ x R' I', x.isSome = ret ∧ rmB GD R' ∧ (∀ k R'', k < 2 → I' k = some R'' → rmB GD R'') ∧ doC Y D yc ec s R I x R' I' ∧ ∀ s1, simR s1 R I → doR Y D ym em s1 R I x R' I') : pairOK Y (Sim GD) D yc ym ec em ret := by
  intro s hS
  obtain ⟨R, I, h1, h2, h3, h4, h5⟩ := hS
  obtain ⟨x, R', I', e1, e2, e3, e4, e5⟩ := h s R I h1 h2 h3 h4
  refine e4 _ (fun s1 q1 q2 => ⟨e1, ?_⟩)
  refine e5 s1 (simR_off h2 (fun i hi => q2 i (Or.inl hi))) _ (fun s2 q3 q4 => ⟨rfl, R', I', simC_off q1 q4, q3, e2, e3, tA_off h5 (fun i hi => ((q4 i (by omega)).1).trans (q2 i (Or.inr hi)).1)⟩)
/-- what a call of the class does that has to do with the tree -/
def doC2 (Y : sY) (D yc : Nat) (ec : List Value) (s : sT) (R : rmT) (I : Nat → Option rmT) (x : Option Int32) (R' : rmT) (I' : Nat → Option rmT) : Prop := ∀ K : Option Int32 → sT → Prop, (∀ s', simC s' R' I' → tA s'.1 → (∀ i, 186 ≤ i → s'.1 i = s.1 i ∧ s'.2 i = s.2 i) → K x s') → tT Y D yc 0 ec [] s K
theorem pair_of2 {GD : sdT → Prop} {Y : sY} {D yc ym : Nat} {ec em : List Value} {ret : Bool} (h : ∀ s R I, simC s R I → simR s R I → tA s.1 → rmB GD R → (∀ k R', k < 2 → I k = some R' → rmB GD R') → ∃ x R' I', x.isSome = ret ∧ rmB GD R' ∧ (∀ k R'', k < 2 → I' k = some R'' → rmB GD R'') ∧ doC2 Y D yc ec s R I x R' I' ∧ ∀ s1, simR s1 R I → doR Y D ym em s1 R I x R' I') : pairOK Y (Sim GD) D yc ym ec em ret := by
  intro s hS
  obtain ⟨R, I, h1, h2, h3, h4, h5⟩ := hS
  obtain ⟨x, R', I', e1, e2, e3, e4, e5⟩ := h s R I h1 h2 h5 h3 h4
  refine e4 _ (fun s1 q1 qA q2 => ⟨e1, ?_⟩)
  refine e5 s1 (simR_off h2 q2) _ (fun s2 q3 q4 => ⟨rfl, R', I', simC_off q1 q4, q3, e2, e3, tA_off qA (fun i hi => (q4 i (by omega)).1)⟩)
