/-! rows that the printed blocks use -/
theorem ifp {p a b : Prop} [Decidable p] (h : if p then a else b) (hp : p) : a := by rw [if_pos hp] at h; exact h
theorem ifn {p a b : Prop} [Decidable p] (h : if p then a else b) (hp : ¬ p) : b := by rw [if_neg hp] at h; exact h
/-- which fields are numbers -/
theorem isI_0_0 : ll_isI 0 0 = false := by decide +kernel
theorem isI_0_1 : ll_isI 0 1 = false := by decide +kernel
theorem isI_0_2 : ll_isI 0 2 = false := by decide +kernel
theorem isI_0_3 : ll_isI 0 3 = true := by decide +kernel
theorem isI_0_4 : ll_isI 0 4 = true := by decide +kernel
theorem isI_0_5 : ll_isI 0 5 = true := by decide +kernel
theorem isI_0_6 : ll_isI 0 6 = true := by decide +kernel
theorem isI_1_0 : ll_isI 1 0 = false := by decide +kernel
theorem isI_1_1 : ll_isI 1 1 = false := by decide +kernel
theorem isI_1_2 : ll_isI 1 2 = false := by decide +kernel
theorem isI_1_3 : ll_isI 1 3 = false := by decide +kernel
theorem isI_1_4 : ll_isI 1 4 = false := by decide +kernel
theorem isI_1_5 : ll_isI 1 5 = false := by decide +kernel
theorem isI_1_6 : ll_isI 1 6 = false := by decide +kernel
theorem isI_1_7 : ll_isI 1 7 = false := by decide +kernel
theorem isI_1_8 : ll_isI 1 8 = true := by decide +kernel
theorem isI_1_9 : ll_isI 1 9 = true := by decide +kernel
theorem isI_1_10 : ll_isI 1 10 = true := by decide +kernel
theorem isI_1_11 : ll_isI 1 11 = true := by decide +kernel
theorem isI_2_0 : ll_isI 2 0 = false := by decide +kernel
theorem isI_2_1 : ll_isI 2 1 = false := by decide +kernel
theorem isI_2_2 : ll_isI 2 2 = true := by decide +kernel
theorem isI_2_3 : ll_isI 2 3 = true := by decide +kernel
theorem isI_2_4 : ll_isI 2 4 = true := by decide +kernel
theorem isI_3_0 : ll_isI 3 0 = false := by decide +kernel
theorem isI_3_1 : ll_isI 3 1 = false := by decide +kernel
theorem isI_3_2 : ll_isI 3 2 = false := by decide +kernel
theorem isI_3_3 : ll_isI 3 3 = false := by decide +kernel
theorem isI_3_4 : ll_isI 3 4 = true := by decide +kernel
theorem isI_4_0 : ll_isI 4 0 = false := by decide +kernel
theorem isI_4_1 : ll_isI 4 1 = false := by decide +kernel
theorem isI_4_2 : ll_isI 4 2 = false := by decide +kernel
theorem isI_4_3 : ll_isI 4 3 = false := by decide +kernel
theorem isI_4_4 : ll_isI 4 4 = false := by decide +kernel
theorem isI_4_5 : ll_isI 4 5 = false := by decide +kernel
theorem isI_4_6 : ll_isI 4 6 = false := by decide +kernel
theorem isI_4_7 : ll_isI 4 7 = false := by decide +kernel
theorem isI_4_8 : ll_isI 4 8 = false := by decide +kernel
theorem isI_4_9 : ll_isI 4 9 = false := by decide +kernel
theorem isI_5_0 : ll_isI 5 0 = false := by decide +kernel
theorem isI_5_1 : ll_isI 5 1 = false := by decide +kernel
theorem isI_5_2 : ll_isI 5 2 = false := by decide +kernel
theorem isI_5_3 : ll_isI 5 3 = false := by decide +kernel
theorem isI_5_4 : ll_isI 5 4 = false := by decide +kernel
theorem isI_5_5 : ll_isI 5 5 = false := by decide +kernel
theorem isI_5_6 : ll_isI 5 6 = true := by decide +kernel
theorem isI_5_7 : ll_isI 5 7 = true := by decide +kernel
theorem isI_5_8 : ll_isI 5 8 = true := by decide +kernel
theorem isI_5_9 : ll_isI 5 9 = true := by decide +kernel
theorem isI_5_10 : ll_isI 5 10 = true := by decide +kernel
theorem isI_6_0 : ll_isI 6 0 = false := by decide +kernel
theorem isI_6_1 : ll_isI 6 1 = false := by decide +kernel
theorem isI_6_2 : ll_isI 6 2 = false := by decide +kernel
theorem isI_6_3 : ll_isI 6 3 = false := by decide +kernel
theorem isI_6_4 : ll_isI 6 4 = false := by decide +kernel
theorem isI_6_5 : ll_isI 6 5 = true := by decide +kernel
theorem isI_6_6 : ll_isI 6 6 = true := by decide +kernel
theorem isI_6_7 : ll_isI 6 7 = true := by decide +kernel
theorem isI_7_0 : ll_isI 7 0 = false := by decide +kernel
theorem isI_7_1 : ll_isI 7 1 = true := by decide +kernel
theorem isI_8_0 : ll_isI 8 0 = false := by decide +kernel
theorem isI_8_1 : ll_isI 8 1 = false := by decide +kernel
theorem isI_8_2 : ll_isI 8 2 = false := by decide +kernel
theorem isI_8_3 : ll_isI 8 3 = false := by decide +kernel
theorem isI_8_4 : ll_isI 8 4 = false := by decide +kernel
theorem isI_8_5 : ll_isI 8 5 = false := by decide +kernel
theorem isI_8_6 : ll_isI 8 6 = false := by decide +kernel
theorem isI_8_7 : ll_isI 8 7 = true := by decide +kernel
theorem isI_8_8 : ll_isI 8 8 = true := by decide +kernel
theorem isI_8_9 : ll_isI 8 9 = true := by decide +kernel
theorem isI_9_0 : ll_isI 9 0 = false := by decide +kernel
theorem isI_9_1 : ll_isI 9 1 = false := by decide +kernel
theorem isI_9_2 : ll_isI 9 2 = false := by decide +kernel
theorem isI_9_3 : ll_isI 9 3 = false := by decide +kernel
theorem isI_9_4 : ll_isI 9 4 = false := by decide +kernel
theorem isI_9_5 : ll_isI 9 5 = false := by decide +kernel
theorem isI_9_6 : ll_isI 9 6 = true := by decide +kernel
theorem isI_10_0 : ll_isI 10 0 = false := by decide +kernel
theorem isI_10_1 : ll_isI 10 1 = false := by decide +kernel
theorem isI_10_2 : ll_isI 10 2 = false := by decide +kernel
theorem isI_10_3 : ll_isI 10 3 = false := by decide +kernel
theorem isI_10_4 : ll_isI 10 4 = false := by decide +kernel
theorem isI_10_5 : ll_isI 10 5 = false := by decide +kernel
theorem isI_10_6 : ll_isI 10 6 = false := by decide +kernel
theorem isI_10_7 : ll_isI 10 7 = false := by decide +kernel
theorem isI_10_8 : ll_isI 10 8 = false := by decide +kernel
theorem isI_10_9 : ll_isI 10 9 = false := by decide +kernel
theorem isI_10_10 : ll_isI 10 10 = false := by decide +kernel
theorem isI_11_0 : ll_isI 11 0 = false := by decide +kernel
theorem isI_11_1 : ll_isI 11 1 = false := by decide +kernel
theorem isI_11_2 : ll_isI 11 2 = false := by decide +kernel
theorem isI_11_3 : ll_isI 11 3 = true := by decide +kernel
theorem isI_11_4 : ll_isI 11 4 = true := by decide +kernel
theorem isI_11_5 : ll_isI 11 5 = false := by decide +kernel
theorem isI_11_6 : ll_isI 11 6 = false := by decide +kernel
theorem isI_11_7 : ll_isI 11 7 = false := by decide +kernel
theorem isI_11_8 : ll_isI 11 8 = false := by decide +kernel
theorem isI_11_9 : ll_isI 11 9 = false := by decide +kernel
theorem isI_11_10 : ll_isI 11 10 = false := by decide +kernel
theorem isI_11_11 : ll_isI 11 11 = false := by decide +kernel
theorem isI_11_12 : ll_isI 11 12 = true := by decide +kernel
theorem isI_11_13 : ll_isI 11 13 = true := by decide +kernel
theorem isI_11_14 : ll_isI 11 14 = false := by decide +kernel
theorem isI_11_15 : ll_isI 11 15 = false := by decide +kernel
theorem isI_11_16 : ll_isI 11 16 = false := by decide +kernel
theorem isI_11_17 : ll_isI 11 17 = true := by decide +kernel
theorem isI_11_18 : ll_isI 11 18 = false := by decide +kernel
theorem isI_11_19 : ll_isI 11 19 = true := by decide +kernel
theorem isI_11_20 : ll_isI 11 20 = false := by decide +kernel
theorem isI_11_21 : ll_isI 11 21 = false := by decide +kernel
theorem isI_11_22 : ll_isI 11 22 = false := by decide +kernel
theorem isI_11_23 : ll_isI 11 23 = false := by decide +kernel
theorem isI_11_24 : ll_isI 11 24 = false := by decide +kernel
theorem isI_11_25 : ll_isI 11 25 = true := by decide +kernel
theorem isI_11_26 : ll_isI 11 26 = true := by decide +kernel
theorem isI_11_27 : ll_isI 11 27 = false := by decide +kernel
theorem isI_11_28 : ll_isI 11 28 = false := by decide +kernel
theorem isI_11_29 : ll_isI 11 29 = true := by decide +kernel
theorem isI_11_30 : ll_isI 11 30 = true := by decide +kernel
theorem isI_11_31 : ll_isI 11 31 = false := by decide +kernel
theorem isI_11_32 : ll_isI 11 32 = false := by decide +kernel
theorem isI_11_33 : ll_isI 11 33 = true := by decide +kernel
theorem isI_11_34 : ll_isI 11 34 = false := by decide +kernel
theorem isI_11_35 : ll_isI 11 35 = false := by decide +kernel
theorem isI_11_36 : ll_isI 11 36 = false := by decide +kernel
theorem isI_11_37 : ll_isI 11 37 = false := by decide +kernel
theorem isI_11_38 : ll_isI 11 38 = false := by decide +kernel
theorem isI_11_39 : ll_isI 11 39 = false := by decide +kernel
theorem isI_11_40 : ll_isI 11 40 = false := by decide +kernel
theorem isI_11_41 : ll_isI 11 41 = false := by decide +kernel
theorem isI_11_42 : ll_isI 11 42 = true := by decide +kernel
theorem isI_11_43 : ll_isI 11 43 = true := by decide +kernel
theorem isI_11_44 : ll_isI 11 44 = true := by decide +kernel
theorem isI_11_45 : ll_isI 11 45 = false := by decide +kernel
theorem t3_tabk {lo : Int} {n : Nat} {x : Int32} (h : ∀ j : Nat, j < n → ¬ x = Int32.ofInt (lo + (j : Int))) (k : Nat) (hk : k < n) : x.toInt ≠ lo + (k : Int) := by
  intro he
  exact h k hk (by rw [← he]; exact (Int32.ofInt_toInt _).symm)
section T3
variable {Y : sY} {d y pc n : Nat} {ls st : List Value} {s : sT} {K : Option Int32 → sT → Prop}
theorem t3_if {p : Prop} [Decidable p] {t : Nat} {g : Int32 → Bool} {x : Int32} (hP : ll_P Y.1 Y.2.1 y pc = some (.inl (lo_if t n g))) (hg : g x = decide p) (h1 : p → tT Y d y t ls st s K) (h2 : ¬ p → tT Y d y n ls st s K) : tT Y d y pc ls (.int x :: st) s K := by
  rw [tt_if hP, hg]
  by_cases hp : p
  · simpa [hp] using h1 hp
  · simpa [hp] using h2 hp
theorem t3_cmp {p : Prop} [Decidable p] {t : Nat} {g : Int32 → Int32 → Bool} {x z : Int32} (hP : ll_P Y.1 Y.2.1 y pc = some (.inl (lo_cmp t n g))) (hg : g x z = decide p) (h1 : p → tT Y d y t ls st s K) (h2 : ¬ p → tT Y d y n ls st s K) : tT Y d y pc ls (.int z :: .int x :: st) s K := by
  rw [tt_cmp hP, hg]
  by_cases hp : p
  · simpa [hp] using h1 hp
  · simpa [hp] using h2 hp
theorem t3_tab {lo : Int} {ts : List Nat} {e0 t : Nat} {x : Int32} (hP : ll_P Y.1 Y.2.1 y pc = some (.inl (lo_tab lo ts e0))) (ht : (if x.toInt < lo then e0 else ts.getD (x.toInt - lo).toNat e0) = t) (h : tT Y d y t ls st s K) : tT Y d y pc ls (.int x :: st) s K := by
  rw [tt_tab hP, ht]
  exact h
/-- none of the switch's numbers -/
theorem t3_tabd {lo : Int} {ts : List Nat} {e0 : Nat} {x : Int32} (h : ∀ k : Nat, k < ts.length → x.toInt ≠ lo + (k : Int)) : (if x.toInt < lo then e0 else ts.getD (x.toInt - lo).toNat e0) = e0 := by
  by_cases h1 : x.toInt < lo
  · rw [if_pos h1]
  · rw [if_neg h1, List.getD_eq_getElem?_getD, List.getElem?_eq_none]
    · rfl
    · by_cases h2 : (x.toInt - lo).toNat < ts.length
      · exact absurd (show x.toInt = lo + ((x.toInt - lo).toNat : Int) by omega) (h _ h2)
      · omega
theorem t3_geti {i ci k : Nat} (hP : ll_P Y.1 Y.2.1 y pc = some (.inl (lo_getf n ci k))) (hI : ll_isI ci k = true) (h : isO Y i ci) (kk : tT Y d y n ls (.int (s.1 i k) :: st) s K) : tT Y d y pc ls (.ref i :: st) s K := (t2_geti hP hI h).mpr kk
theorem t3_getr {i ci k a : Nat} (hP : ll_P Y.1 Y.2.1 y pc = some (.inl (lo_getf n ci k))) (hI : ll_isI ci k = false) (h : isO Y i ci) (ha : s.2 i k = some a) (kk : tT Y d y n ls (.ref a :: st) s K) : tT Y d y pc ls (.ref i :: st) s K := (t2_getr hP hI h ha).mpr kk
theorem t3_ald {i t m : Nat} {j : Int32} (hP : ll_P Y.1 Y.2.1 y pc = some (.inl (lo_ald n t))) (hs : isA Y i t m) (hj : inR j m) (kk : tT Y d y n ls (.int (s.1 i j.toNatClampNeg) :: st) s K) : tT Y d y pc ls (.int j :: .ref i :: st) s K := (tt_ald hP hs hj).mpr kk
theorem t3_ast {i m : Nat} {j x : Int32} (hP : ll_P Y.1 Y.2.1 y pc = some (.inl (lo_ast n 0))) (hs : isA Y i 0 m) (hj : inR j m) (kk : tT Y d y n ls st (pV s i j.toNatClampNeg x) K) : tT Y d y pc ls (.int x :: .int j :: .ref i :: st) s K := (tt_ast hP hs hj).mpr kk
theorem t3_zst {i m : Nat} {j x : Int32} (hP : ll_P Y.1 Y.2.1 y pc = some (.inl (lo_ast n 1))) (hs : isA Y i 1 m) (hj : inR j m) (hx : x = 0 ∨ x = 1) (kk : tT Y d y n ls st (pV s i j.toNatClampNeg x) K) : tT Y d y pc ls (.int x :: .int j :: .ref i :: st) s K := (tt_zst hP hx hs hj).mpr kk
theorem t3_aald {i t m a : Nat} {j : Int32} (hP : ll_P Y.1 Y.2.1 y pc = some (.inl (lo_aald n))) (hs : isQ Y i t m) (hj : inR j m) (ha : s.2 i j.toNatClampNeg = some a) (kk : tT Y d y n ls (.ref a :: st) s K) : tT Y d y pc ls (.int j :: .ref i :: st) s K := (tt_aald hP hs hj ha).mpr kk
theorem t3_aast {i t m a : Nat} {j : Int32} (hP : ll_P Y.1 Y.2.1 y pc = some (.inl (lo_aast n))) (hs : isQ Y i t m) (hv : isO Y a t) (hj : inR j m) (kk : tT Y d y n ls st (pR s i j.toNatClampNeg (some a)) K) : tT Y d y pc ls (.ref a :: .int j :: .ref i :: st) s K := by
  obtain ⟨m2, hm⟩ := hv.eq
  exact (tt_aast hP hs hm hj).mpr kk
theorem t3_alen {i t m : Nat} (hP : ll_P Y.1 Y.2.1 y pc = some (.inl (lo_alen n))) (hs : isA Y i t m) (kk : tT Y d y n ls (.int (Int32.ofNat m) :: st) s K) : tT Y d y pc ls (.ref i :: st) s K := (tt_alen hP hs).mpr kk
/-- what arraycopy asks -/
def cpOK (sp dp k : Int32) (n0 n1 : Nat) : Prop := ¬ sp < 0 ∧ ¬ dp < 0 ∧ ¬ k < 0 ∧ sp.toNatClampNeg + k.toNatClampNeg ≤ n0 ∧ dp.toNatClampNeg + k.toNatClampNeg ≤ n1
theorem t3_copy {a0 a1 n0 n1 : Nat} {k dp sp : Int32} (hP : ll_P Y.1 Y.2.1 y pc = some (.inl (lo_copy n))) (hs0 : isA Y a0 0 n0) (hs1 : isA Y a1 0 n1) (hc : cpOK sp dp k n0 n1) (hst : st.length ≤ 4) (kk : tT Y d y n ls st (pA s a1 (va_cpy (s.1 a0) (s.1 a1) sp.toNatClampNeg dp.toNatClampNeg k.toNatClampNeg)) K) : tT Y d y pc ls (.int k :: .int dp :: .ref a1 :: .int sp :: .ref a0 :: st) s K := (tt_copy hP hs0 hs1 hst hc.1 hc.2.1 hc.2.2.1 hc.2.2.2.1 hc.2.2.2.2).mpr kk
theorem tt_aloadf {i : Nat} {x : UInt32} (hP : ll_P Y.1 Y.2.1 y pc = some (.inl (lo_aload n i))) (hl : ls[i]? = some (.float x)) : tT Y d y pc ls st s K ↔ tT Y d y n ls (.float x :: st) s K := tt_to hP (by simp only [lo_aload, hl])
theorem tt_slen {x : UInt32} (hP : ll_P Y.1 Y.2.1 y pc = some (.inl (lo_slen n Y.1))) : tT Y d y pc ls (.float x :: st) s K ↔ tT Y d y n ls (.int (Int32.ofNat Y.1) :: st) s K := tt_to hP rfl
theorem t3_sld {x : UInt32} {j : Int32} (hP : ll_P Y.1 Y.2.1 y pc = some (.inl (lo_sld n Y.1 Y.2.1))) (hj : inR j Y.1) (kk : tT Y d y n ls (.int (Y.2.1 j.toNatClampNeg) :: st) s K) : tT Y d y pc ls (.int j :: .float x :: st) s K := (tt_to hP (by simp only [lo_sld, if_neg hj])).mpr kk
end T3
