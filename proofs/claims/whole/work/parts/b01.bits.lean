/-! BITS of a set -/
def bt (S : Int32) (t : Nat) : Bool := S.toBitVec.getLsbD t
theorem smod_t : ∀ t, t < 32 → (nI t &&& 31).toBitVec.smod 32 = BitVec.ofNat 32 t := by decide +kernel
theorem bt_or (a b : Int32) (t : Nat) : bt (a ||| b) t = (bt a t || bt b t) := by unfold bt; rw [Int32.toBitVec_or, BitVec.getLsbD_or]
theorem bt_and (a b : Int32) (t : Nat) : bt (a &&& b) t = (bt a t && bt b t) := by unfold bt; rw [Int32.toBitVec_and, BitVec.getLsbD_and]
theorem bt_zero (t : Nat) : bt 0 t = false := by unfold bt; exact BitVec.getLsbD_zero
theorem bt_bitI' : ∀ u, u < 32 → ∀ t, t < 32 → bt (bitI u) t = decide (t = u) := by decide +kernel
theorem bt_bitI {u t : Nat} (hu : u < 32) (ht : t < 32) : bt (bitI u) t = decide (t = u) := bt_bitI' u hu t ht
theorem bt_ext {a b : Int32} (h : ∀ t, t < 32 → bt a t = bt b t) : a = b := by
  apply Int32.toBitVec_inj.mp
  exact BitVec.eq_of_getLsbD_eq h
theorem bt_1 : ∀ t, t < 32 → bt 1 t = decide (t = 0) := by decide +kernel
theorem bt_test {S : Int32} {t : Nat} (ht : t < 32) : (S >>> (nI t &&& 31)) &&& 1 = if bt S t = true then 1 else 0 := by
  apply bt_ext
  intro i hi
  rw [bt_and, bt_1 i hi]
  by_cases h0 : i = 0
  · subst h0
    have e : bt (S >>> (nI t &&& 31)) 0 = bt S t := by
      unfold bt
      rw [Int32.toBitVec_shiftRight, smod_t t ht, BitVec.getLsbD_sshiftRight', BitVec.toNat_ofNat, Nat.mod_eq_of_lt (by omega), Nat.add_zero]
      simp [ht]
    rw [e]
    cases bt S t <;> rfl
  · rw [show decide (i = 0) = false from decide_eq_false h0, Bool.and_false]
    cases bt S t
    · exact (bt_zero i).symm
    · exact ((bt_1 i hi).trans (decide_eq_false h0)).symm
theorem bt_t0 {S : Int32} {t : Nat} (ht : t < 32) : (S >>> (nI t &&& 31)) &&& 1 = 0 ↔ bt S t = false := by
  rw [bt_test ht]; cases bt S t <;> decide
theorem bt_t1 {S : Int32} {t : Nat} (ht : t < 32) : (S >>> (nI t &&& 31)) &&& 1 = 1 ↔ bt S t = true := by
  rw [bt_test ht]; cases bt S t <;> decide
theorem bt_n0 {S : Int32} : S ≠ 0 ↔ ∃ t, t < 32 ∧ bt S t = true := by
  constructor
  · intro h
    refine Classical.byContradiction (fun hn => h (bt_ext (fun t ht => ?_)))
    rw [bt_zero]
    cases e : bt S t with
    | false => rfl
    | true => exact absurd ⟨t, ht, e⟩ hn
  · rintro ⟨t, _, h⟩ e
    rw [e, bt_zero] at h; cases h
theorem bt_fold {f : Cond → Nat} {t : Nat} (ht : t < 32) : ∀ {l : List Cond} {a : Int32}, (∀ z ∈ l, f z < 32) → bt (l.foldl (fun a z => a ||| bitI (f z)) a) t = (bt a t || l.any (fun z => decide (t = f z)))
  | [], a, _ => by rw [List.foldl_nil, List.any_nil, Bool.or_false]
  | z :: l, a, h => by
    rw [List.foldl_cons, bt_fold ht (fun w hw => h w (List.mem_cons_of_mem _ hw)), bt_or, bt_bitI (h z List.mem_cons_self) ht, List.any_cons, Bool.or_assoc]
