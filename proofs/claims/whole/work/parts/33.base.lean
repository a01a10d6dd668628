/-! numbers -/
theorem nI_lit (n : Nat) : (OfNat.ofNat n : Int32) = nI n := rfl
theorem nJ_add (a b : Nat) : nI a + nI b = nI (a + b) := by unfold nI; exact (Int32.ofNat_add a b).symm
theorem nJ_mul (a b : Nat) : nI a * nI b = nI (a * b) := by unfold nI; exact (Int32.ofNat_mul a b).symm
theorem nI_int {n : Nat} (h : n < 2147483648) : (nI n).toInt = (n : Int) := nI_toInt h
theorem nI_cl {n : Nat} (h : n < 2147483648) : (nI n).toNatClampNeg = n := nI_clamp h
theorem nJ_sub {a b : Nat} (h : b ≤ a) : nI a - nI b = nI (a - b) := by
  have : nI (a - b) + nI b = nI a := by rw [nJ_add, Nat.sub_add_cancel h]
  rw [← this]
  exact Int32.add_sub_cancel _ _
theorem nJ_eq {a b : Nat} (ha : a < 2147483648) (hb : b < 2147483648) : nI a = nI b ↔ a = b := by
  constructor
  · intro h
    have := congrArg Int32.toNatClampNeg h
    rwa [nI_cl ha, nI_cl hb] at this
  · intro h; rw [h]
theorem nJ_lt {a b : Nat} (ha : a < 2147483648) (hb : b < 2147483648) : nI a < nI b ↔ a < b := by
  rw [Int32.lt_iff_toInt_lt, nI_int ha, nI_int hb]; omega
theorem nJ_le {a b : Nat} (ha : a < 2147483648) (hb : b < 2147483648) : nI a ≤ nI b ↔ a ≤ b := by
  rw [Int32.le_iff_toInt_le, nI_int ha, nI_int hb]; omega
theorem nI_nn {a : Nat} (ha : a < 2147483648) : ¬ nI a < 0 := nI_pos ha
theorem i32_cl (x : Int32) : x.toNatClampNeg = x.toInt.toNat := rfl
theorem i32_lt (x : Int32) : x.toNatClampNeg < 2147483648 := by
  have := x.toInt_lt
  rw [i32_cl]
  omega
theorem i32_nI {x : Int32} (h : ¬ x < 0) : nI x.toNatClampNeg = x := by
  have h0 : 0 ≤ x.toInt := by
    rw [Int32.lt_iff_toInt_lt] at h
    have e0 : (0 : Int32).toInt = 0 := rfl
    omega
  apply Int32.toInt_inj.mp
  rw [nI_int (i32_lt x), i32_cl]
  omega
theorem i32_ex {x : Int32} (h : ¬ x < 0) : ∃ n, n < 2147483648 ∧ x = nI n := ⟨x.toNatClampNeg, i32_lt x, (i32_nI h).symm⟩
theorem inR_nI {k m : Nat} (h : k < m) (hm : m < 2147483648) : inR (nI k) m := nI_in h hm
theorem nI_ne_neg {a : Nat} (ha : a < 2147483648) : ¬ nI a = -1 := by
  intro h
  have := congrArg Int32.toInt h
  rw [nI_int ha] at this
  have e : (-1 : Int32).toInt = -1 := rfl
  omega
theorem ofNat_nI (n : Nat) : Int32.ofNat n = nI n := rfl
/-- a truth as a number -/
def bI (p : Prop) [Decidable p] : Int32 := if p then 1 else 0
theorem bI_01 (p : Prop) [Decidable p] : bI p = 0 ∨ bI p = 1 := by unfold bI; split <;> simp
theorem bI_t {p : Prop} [Decidable p] (h : p) : bI p = 1 := if_pos h
theorem bI_f {p : Prop} [Decidable p] (h : ¬ p) : bI p = 0 := if_neg h
theorem bI_0 {p : Prop} [Decidable p] : bI p = 0 ↔ ¬ p := by unfold bI; split <;> simp [*]
theorem bI_1 {p : Prop} [Decidable p] : bI p = 1 ↔ p := by unfold bI; split <;> simp [*]
/-- the answer of a callee on the stack -/
theorem rt_some (x : Int32) (st : List Value) : ((some x).map Value.int).toList ++ st = .int x :: st := rfl
theorem rt_none (st : List Value) : ((none : Option Int32).map Value.int).toList ++ st = st := rfl
/-- cells that are the same in two stores -/
def eqOff (M : Nat → Prop) (s s' : sT) : Prop := ∀ i, ¬ M i → s'.1 i = s.1 i ∧ s'.2 i = s.2 i
theorem eqOff.refl {M : Nat → Prop} {s : sT} : eqOff M s s := fun _ _ => ⟨rfl, rfl⟩
theorem eqOff.trans {M : Nat → Prop} {s s1 s2 : sT} (h : eqOff M s s1) (h2 : eqOff M s1 s2) : eqOff M s s2 := fun i hi => ⟨(h2 i hi).1.trans (h i hi).1, (h2 i hi).2.trans (h i hi).2⟩
theorem eqOff.mono {M M' : Nat → Prop} {s s1 : sT} (h : eqOff M s s1) (hm : ∀ i, M i → M' i) : eqOff M' s s1 := fun i hi => h i (fun q => hi (hm i q))
theorem eqOff.pV {M : Nat → Prop} {s s1 : sT} {i k : Nat} {x : Int32} (h : eqOff M s s1) (hi : M i) : eqOff M s (pV s1 i k x) := fun j hj => by
  have hne : j ≠ i := fun q => hj (q ▸ hi)
  refine ⟨?_, (h j hj).2⟩
  rw [← (h j hj).1]
  funext k'
  rw [pV_1, if_neg (fun q => hne q.1)]
theorem eqOff.pA {M : Nat → Prop} {s s1 : sT} {i : Nat} {f : Nat → Int32} (h : eqOff M s s1) (hi : M i) : eqOff M s (pA s1 i f) := fun j hj => by
  have hne : j ≠ i := fun q => hj (q ▸ hi)
  refine ⟨?_, (h j hj).2⟩
  rw [← (h j hj).1]
  funext k'
  rw [pA_1, if_neg hne]
theorem eqOff.pR {M : Nat → Prop} {s s1 : sT} {i k : Nat} {o : Option Nat} (h : eqOff M s s1) (hi : M i) : eqOff M s (pR s1 i k o) := fun j hj => by
  have hne : j ≠ i := fun q => hj (q ▸ hi)
  refine ⟨(h j hj).1, ?_⟩
  rw [← (h j hj).2]
  funext k'
  rw [pR_2, if_neg (fun q => hne q.1)]
