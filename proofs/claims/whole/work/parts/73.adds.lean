section RA
variable {L : Nat} {xs : Nat → Int32} {d : Nat} {s : sT} {K : Option Int32 → sT → Prop}
/-- a node N is being made: q pooled, c of its children laid, w of its parts' marks -/
def ad0 (s s' : sT) (N p n how q c w : Nat) (js : List Nat) : Prop :=
  s'.2 = s.2 ∧ (∀ z, z ≠ 186 → (z < 190 ∨ 196 < z) → z ≠ 198 → s'.1 z = s.1 z) ∧ (∀ z, z ≠ 13 → s'.1 186 z = s.1 186 z) ∧ s'.1 186 13 = nI q ∧ (∀ z t, 190 ≤ z → z ≤ 196 → z ≠ 195 → t ≠ N → s'.1 z t = s.1 z t) ∧
  (s'.1 190 N = nI how ∧ s'.1 191 N = nI p ∧ s'.1 192 N = nI n) ∧ (∀ t, (t < p ∨ p + n ≤ t) → s'.1 195 t = s.1 195 t) ∧ (∀ i, i < c → s'.1 195 (p + i) = nI (js.getD i 0)) ∧ (∀ t, (t < 3 * N ∨ 3 * N + 3 ≤ t) → s'.1 198 t = s.1 198 t) ∧ ∀ x, x < w → s'.1 198 (3 * N + x) = -1
/-- a write to the node's own: shortest, nest, full -/
theorem ad0_own {s' : sT} {N p n how q c w z : Nat} {x : Int32} {js : List Nat} (h : ad0 s s' N p n how q c w js) (hz : z = 193 ∨ z = 194 ∨ z = 196) : ad0 s (pV s' z N x) N p n how q c w js := by
  obtain ⟨a1, a2, a3, a4, a5, ⟨a6, a7, a8⟩, a9, b1, b2, b3⟩ := h
  refine ⟨a1, fun y h1 h2 h3 => by rw [← a2 y h1 h2 h3]; funext t; rw [pV_1, if_neg (by omega)], fun y hy => by rw [pV_1, if_neg (by omega)]; exact a3 y hy, by rw [pV_1, if_neg (by omega)]; exact a4, fun y t h1 h2 h3 h4 => by rw [pV_1, if_neg (by omega)]; exact a5 y t h1 h2 h3 h4, ⟨by rw [pV_1, if_neg (by omega)]; exact a6, by rw [pV_1, if_neg (by omega)]; exact a7, by rw [pV_1, if_neg (by omega)]; exact a8⟩, fun t ht => by rw [pV_1, if_neg (by omega)]; exact a9 t ht, fun i hi => by rw [pV_1, if_neg (by omega)]; exact b1 i hi, fun t ht => by rw [pV_1, if_neg (by omega)]; exact b2 t ht, fun y hy => by rw [pV_1, if_neg (by omega)]; exact b3 y hy⟩
theorem ad0_pool {s' : sT} {N p n how q c w : Nat} {js : List Nat} (h : ad0 s s' N p n how q c w js) (hc : c < n) : ad0 s (pV s' 195 (p + c) (nI (js.getD c 0))) N p n how q (c + 1) w js := by
  obtain ⟨a1, a2, a3, a4, a5, ⟨a6, a7, a8⟩, a9, b1, b2, b3⟩ := h
  refine ⟨a1, fun y h1 h2 h3 => by rw [← a2 y h1 h2 h3]; funext t; rw [pV_1, if_neg (by omega)], fun y hy => by rw [pV_1, if_neg (by omega)]; exact a3 y hy, by rw [pV_1, if_neg (by omega)]; exact a4, fun y t h1 h2 h3 h4 => by rw [pV_1, if_neg (by omega)]; exact a5 y t h1 h2 h3 h4, ⟨by rw [pV_1, if_neg (by omega)]; exact a6, by rw [pV_1, if_neg (by omega)]; exact a7, by rw [pV_1, if_neg (by omega)]; exact a8⟩, fun t ht => by rw [pV_1, if_neg (by omega)]; exact a9 t ht, fun i hi => ?_, fun t ht => by rw [pV_1, if_neg (by omega)]; exact b2 t ht, fun y hy => by rw [pV_1, if_neg (by omega)]; exact b3 y hy⟩
  rw [pV_1]
  by_cases e : i = c
  · subst e; rw [if_pos ⟨rfl, rfl⟩]
  · rw [if_neg (by omega)]; exact b1 i (by omega)
theorem ad0_mark {s' : sT} {N p n how q c w : Nat} {js : List Nat} (h : ad0 s s' N p n how q c w js) (hw : w < 3) : ad0 s (pV s' 198 (3 * N + w) (-1)) N p n how q c (w + 1) js := by
  obtain ⟨a1, a2, a3, a4, a5, ⟨a6, a7, a8⟩, a9, b1, b2, b3⟩ := h
  refine ⟨a1, fun y h1 h2 h3 => by rw [← a2 y h1 h2 h3]; funext t; rw [pV_1, if_neg (by omega)], fun y hy => by rw [pV_1, if_neg (by omega)]; exact a3 y hy, by rw [pV_1, if_neg (by omega)]; exact a4, fun y t h1 h2 h3 h4 => by rw [pV_1, if_neg (by omega)]; exact a5 y t h1 h2 h3 h4, ⟨by rw [pV_1, if_neg (by omega)]; exact a6, by rw [pV_1, if_neg (by omega)]; exact a7, by rw [pV_1, if_neg (by omega)]; exact a8⟩, fun t ht => by rw [pV_1, if_neg (by omega)]; exact a9 t ht, fun i hi => by rw [pV_1, if_neg (by omega)]; exact b1 i hi, fun t ht => by rw [pV_1, if_neg (by omega)]; exact b2 t ht, fun y hy => ?_⟩
  rw [pV_1]
  by_cases e : y = w
  · subst e; rw [if_pos ⟨rfl, rfl⟩]
  · rw [if_neg (by omega)]; exact b3 y (by omega)
theorem ad0_pooled {s' : sT} {N p n how q q' c w : Nat} {js : List Nat} (h : ad0 s s' N p n how q c w js) : ad0 s (pV s' 186 13 (nI q')) N p n how q' c w js := by
  obtain ⟨a1, a2, a3, a4, a5, ⟨a6, a7, a8⟩, a9, b1, b2, b3⟩ := h
  exact ⟨a1, fun y h1 h2 h3 => by rw [← a2 y h1 h2 h3]; funext t; rw [pV_1, if_neg (by omega)], fun y hy => by rw [pV_1, if_neg (by omega)]; exact a3 y hy, by rw [pV_1, if_pos ⟨rfl, rfl⟩], fun y t h1 h2 h3 h4 => by rw [pV_1, if_neg (by omega)]; exact a5 y t h1 h2 h3 h4, ⟨by rw [pV_1, if_neg (by omega)]; exact a6, by rw [pV_1, if_neg (by omega)]; exact a7, by rw [pV_1, if_neg (by omega)]; exact a8⟩, fun t ht => by rw [pV_1, if_neg (by omega)]; exact a9 t ht, fun i hi => by rw [pV_1, if_neg (by omega)]; exact b1 i hi, fun t ht => by rw [pV_1, if_neg (by omega)]; exact b2 t ht, fun y hy => by rw [pV_1, if_neg (by omega)]; exact b3 y hy⟩
theorem ad0_join {s' s2 : sT} {N p n how q c w S D : Nat} {F : Bool} {js : List Nat} (h : ad0 s s' N p n how q c w js) (hj : jnO s' s2 N S D F) : ad0 s s2 N p n how q c w js := by
  obtain ⟨a1, a2, a3, a4, a5, ⟨a6, a7, a8⟩, a9, b1, b2, b3⟩ := h
  obtain ⟨j1, j2, j3, -, -, -⟩ := hj
  refine ⟨j1.trans a1, fun y h1 h2 h3 => by rw [j2 y (by omega) (by omega) (by omega)]; exact a2 y h1 h2 h3, fun y hy => by rw [j2 186 (by omega) (by omega) (by omega)]; exact a3 y hy, by rw [j2 186 (by omega) (by omega) (by omega)]; exact a4, fun y t h1 h2 h3 h4 => ?_, ⟨by rw [j2 190 (by omega) (by omega) (by omega)]; exact a6, by rw [j2 191 (by omega) (by omega) (by omega)]; exact a7, by rw [j2 192 (by omega) (by omega) (by omega)]; exact a8⟩, fun t ht => by rw [j2 195 (by omega) (by omega) (by omega)]; exact a9 t ht, fun i hi => by rw [j2 195 (by omega) (by omega) (by omega)]; exact b1 i hi, fun t ht => by rw [j2 198 (by omega) (by omega) (by omega)]; exact b2 t ht, fun y hy => by rw [j2 198 (by omega) (by omega) (by omega)]; exact b3 y hy⟩
  rw [← a5 y t h1 h2 h3 h4]
  rcases (show y = 190 ∨ y = 191 ∨ y = 192 ∨ y = 193 ∨ y = 194 ∨ y = 196 by omega) with rfl | rfl | rfl | rfl | rfl | rfl
  · rw [j2 190 (by omega) (by omega) (by omega)]
  · rw [j2 191 (by omega) (by omega) (by omega)]
  · rw [j2 192 (by omega) (by omega) (by omega)]
  · exact (j3 t h4).1
  · exact (j3 t h4).2.1
  · exact (j3 t h4).2.2
end RA
