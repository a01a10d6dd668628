/-! THE CLASS'S TEXTS: an object t of class 7, its row at t + 1 -/
def tX (Y : sY) (ρ : Nat → Nat → Option Nat) (t cap : Nat) : Prop := isO Y t 7 ∧ isA Y (t + 1) 0 cap ∧ ρ t 0 = some (t + 1) ∧ cap < 100000
section TX
variable {Y : sY} {d : Nat} {s : sT} {K : Option Int32 → sT → Prop} {t cap n : Nat}
theorem x_clear (hx : isO Y t 7) (h : K none (pV s t 1 0)) : tT Y d 71 0 [.ref t] [] s K := b_71_0 ⟨hx, h⟩
theorem x_at (hx : tX Y s.2 t cap) (hn : s.1 t 1 = nI n) (hc : n ≤ cap) {i : Int32} (h1 : ∀ k, i = nI k → k < n → K (some (s.1 (t + 1) k)) s) (h2 : (i < 0 ∨ nI n ≤ i) → K (some (-1)) s) : tT Y d 77 0 [.ref t, .int i] [] s K := by
  obtain ⟨x1, x2, x3, x4⟩ := hx
  refine b_77_0 ?_
  split
  · rename_i hi; exact h2 (Or.inl hi)
  · rename_i hi
    refine ⟨x1, ?_⟩
    rw [hn]
    split
    · rename_i hi2; exact h2 (Or.inr hi2)
    · rename_i hi2
      obtain ⟨k, hk, rfl⟩ := i32_ex hi
      rw [nJ_le (by omega) hk] at hi2
      refine ⟨t + 1, ⟨x1, x3⟩, cap, ⟨x2, inR_nI (by omega) (by omega)⟩, ?_⟩
      rw [nI_cl hk]
      exact h1 k rfl (by omega)
theorem x_at_in (hx : tX Y s.2 t cap) (hn : s.1 t 1 = nI n) (hc : n ≤ cap) {k : Nat} (hk : k < n) (h : K (some (s.1 (t + 1) k)) s) : tT Y d 77 0 [.ref t, .int (nI k)] [] s K := by
  have hc4 := hx.2.2.2
  refine x_at hx hn hc (fun k' e hk' => ?_) (fun e => ?_)
  · rw [nJ_eq (by omega) (by omega)] at e
    subst e; exact h
  · rcases e with e | e
    · exact absurd e (nI_nn (by omega))
    · rw [nJ_le (by omega) (by omega)] at e; omega
theorem x_add (hx : tX Y s.2 t cap) (hn : s.1 t 1 = nI n) (hc : n < cap) {b : Int32} (h : K none (pV (pV s (t + 1) n b) t 1 (nI (n + 1)))) : tT Y d 72 0 [.ref t, .int b] [] s K := by
  obtain ⟨x1, x2, x3, x4⟩ := hx
  refine b_72_0 ⟨x1, t + 1, ⟨x1, x3⟩, 0, cap, x2, ?_⟩
  rw [hn, if_neg (by rw [ofNat_nI, nJ_le (by omega) (by omega)]; omega)]
  refine ⟨t + 1, ⟨x1, x3⟩, x1, cap, ⟨x2, inR_nI hc (by omega)⟩, x1, x1, ?_⟩
  rw [nI_cl (by omega), pV_1, if_neg (by omega), hn, nI_lit 1, nJ_add]
  exact h
theorem x_add_full (hx : tX Y s.2 t cap) (hn : s.1 t 1 = nI cap) {b : Int32} (h : K none s) : tT Y d 72 0 [.ref t, .int b] [] s K := by
  obtain ⟨x1, x2, x3, x4⟩ := hx
  refine b_72_0 ⟨x1, t + 1, ⟨x1, x3⟩, 0, cap, x2, ?_⟩
  rw [hn, if_pos (by rw [ofNat_nI, nJ_le (by omega) (by omega)]; omega)]
  exact h
theorem x_setAt (hx : tX Y s.2 t cap) (hn : s.1 t 1 = nI n) (hc : n ≤ cap) {k : Nat} (hk : k < n) {b : Int32} (h : K none (pV s (t + 1) k b)) : tT Y d 76 0 [.ref t, .int (nI k), .int b] [] s K := by
  obtain ⟨x1, x2, x3, x4⟩ := hx
  refine b_76_0 ?_
  rw [if_neg (nI_nn (by omega))]
  refine ⟨x1, ?_⟩
  rw [hn, if_neg (by rw [nJ_le (by omega) (by omega)]; omega)]
  refine ⟨t + 1, ⟨x1, x3⟩, cap, ⟨x2, inR_nI (by omega) (by omega)⟩, ?_⟩
  rw [nI_cl (by omega)]
  exact h
theorem x_addAll {o capo m : Nat} (hx : tX Y s.2 t cap) (hn : s.1 t 1 = nI n) (hy : tX Y s.2 o capo) (hm : s.1 o 1 = nI m) (hmc : m ≤ capo) (hc : n + m ≤ cap) (h : K none (pV (pA s (t + 1) (va_cpy (s.1 (o + 1)) (s.1 (t + 1)) 0 n m)) t 1 (nI (n + m)))) : tT Y d 73 0 [.ref t, .ref o, .null] [] s K := by
  obtain ⟨x1, x2, x3, x4⟩ := hx
  obtain ⟨y1, y2, y3, y4⟩ := hy
  have hmin : (if ((Int32.ofNat cap) - (s.1 t 1)) < (s.1 o 1) then ((Int32.ofNat cap) - (s.1 t 1)) else (s.1 o 1)) = nI m := by
    rw [hn, hm, ofNat_nI, nJ_sub (by omega)]
    by_cases hlt : nI (cap - n) < nI m
    · rw [nJ_lt (by omega) (by omega)] at hlt; omega
    · rw [if_neg hlt]
  refine b_73_0 ⟨y1, t + 1, ⟨x1, x3⟩, 0, cap, x2, x1, o + 1, ⟨y1, y3⟩, t + 1, ⟨x1, x3⟩, x1, capo, cap, ⟨y2, x2, ?_⟩, ?_⟩
  · rw [hmin, hn]
    refine ⟨by decide, nI_nn (by omega), nI_nn (by omega), ?_, ?_⟩
    · rw [nI_cl (by omega)]; show 0 + m ≤ capo; omega
    · rw [nI_cl (by omega), nI_cl (by omega)]; exact hc
  · rw [hmin, hn, nI_cl (by omega), nI_cl (by omega)]
    refine b_73_35 ⟨x1, x1, ?_⟩
    rw [pA_1, if_neg (by omega), hn, nJ_add]
    exact h
/-- t becomes what o is -/
theorem x_become {o capo m : Nat} (hx : tX Y s.2 t cap) (hy : tX Y s.2 o capo) (hm : s.1 o 1 = nI m) (hmc : m ≤ capo) (hc : m ≤ cap) (h1 : t ≠ o) (h2 : t ≠ o + 1) (h3 : t + 1 ≠ o) (h : ∀ s' : sT, s'.2 = s.2 → s'.1 t 1 = nI m → (∀ j, j < m → s'.1 (t + 1) j = s.1 (o + 1) j) → eqOff (fun i => i = t ∨ i = t + 1) s s' → K none s') : tT Y (d + 1) 75 0 [.ref t, .ref o] [] s K := by
  refine b_75_0 ⟨hx.1, x_clear hx.1 ?_⟩
  rw [rt_none]
  refine b_75_4 ⟨hx.1, ?_⟩
  refine x_addAll (n := 0) (m := m) (cap := cap) (capo := capo) hx (by rw [pV_1, if_pos ⟨rfl, rfl⟩]; rfl) hy (by rw [pV_1, if_neg (by omega)]; exact hm) hmc (by omega) ?_
  rw [rt_none]
  refine b_75_9 (h _ rfl ?_ ?_ ?_)
  · rw [pV_1, if_pos ⟨rfl, rfl⟩, Nat.zero_add]
  · intro j hj
    rw [pV_1, if_neg (by omega), pA_1, if_pos rfl]
    simp only [va_cpy]
    rw [if_pos ⟨Nat.zero_le _, by omega⟩, pV_1, if_neg (by omega)]
    simp
  · exact ((eqOff.refl.pV (Or.inl rfl)).pA (Or.inr rfl)).pV (Or.inl rfl)
/-- how many of the first n are b -/
def cnt (f : Nat → Int32) (b : Int32) : Nat → Nat
  | 0 => 0
  | n + 1 => cnt f b n + if f n = b then 1 else 0
theorem cnt_le (f : Nat → Int32) (b : Int32) : ∀ n, cnt f b n ≤ n
  | 0 => Nat.le_refl _
  | n + 1 => by
    have := cnt_le f b n
    unfold cnt
    split <;> omega
theorem x_countOf (hx : tX Y s.2 t cap) (hn : s.1 t 1 = nI n) (hc : n ≤ cap) {b : Int32} (h : K (some (nI (cnt (s.1 (t + 1)) b n))) s) : tT Y d 78 0 [.ref t, .int b, .null, .null] [] s K := by
  obtain ⟨x1, x2, x3, x4⟩ := hx
  have loop : ∀ q k, q + k = n → tT Y d 78 4 [.ref t, .int b, .int (nI (cnt (s.1 (t + 1)) b k)), .int (nI k)] [] s K := by
    intro q
    induction q with
    | zero =>
      intro k hk
      refine b_78_4 ⟨x1, ?_⟩
      rw [hn, if_pos (by rw [nJ_le (by omega) (by omega)]; omega)]
      rw [show k = n by omega]
      exact h
    | succ q ih =>
      intro k hk
      refine b_78_4 ⟨x1, ?_⟩
      rw [hn, if_neg (by rw [nJ_le (by omega) (by omega)]; omega)]
      refine ⟨t + 1, ⟨x1, x3⟩, cap, ⟨x2, inR_nI (by omega) (by omega)⟩, ?_⟩
      rw [nI_cl (by omega)]
      have e := ih (k + 1) (by omega)
      unfold cnt at e
      split
      · rename_i hb
        rw [if_neg hb, Nat.add_zero, nI_succ k] at e
        exact b_78_25 e
      · rename_i hb
        rw [if_pos (Classical.byContradiction hb), nI_succ, nI_succ k] at e
        exact b_78_25 e
  exact b_78_0 (loop n 0 (by omega))
end TX
