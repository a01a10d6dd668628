section RS
variable {L : Nat} {xs : Nat → Int32} {d : Nat} {s : sT} {K : Option Int32 → sT → Prop}
/-- the table grows from T to T': what stays -/
def gw (s s' : sT) (T T' : List Cond) : Prop := s'.2 = s.2 ∧ (∀ z, z ≠ 186 → (z < 190 ∨ 196 < z) → z ≠ 198 → z ≠ 200 → s'.1 z = s.1 z) ∧ (∀ z, z ≠ 12 → z ≠ 13 → z ≠ 19 → s'.1 186 z = s.1 186 z) ∧ (∃ e, T' = T ++ e) ∧ (∀ t, t < 3 * T.length → s'.1 198 t = s.1 198 t) ∧ ∀ t, 3 * T.length ≤ t → t < 3 * T'.length → s'.1 198 t = -1
theorem gw_refl (s : sT) (T : List Cond) : gw s s T T := ⟨rfl, fun _ _ _ _ _ => rfl, fun _ _ _ _ => rfl, ⟨[], (List.append_nil _).symm⟩, fun _ _ => rfl, fun t h1 h2 => by omega⟩
theorem gw_trans {s1 s2 : sT} {T T1 T2 : List Cond} (h1 : gw s s1 T T1) (h2 : gw s1 s2 T1 T2) : gw s s2 T T2 := by
  obtain ⟨a1, a2, a3, ⟨e1, a4⟩, a5, a6⟩ := h1
  obtain ⟨b1, b2, b3, ⟨e2, b4⟩, b5, b6⟩ := h2
  have hl : T.length ≤ T1.length := by rw [a4, List.length_append]; omega
  refine ⟨b1.trans a1, fun z q1 q2 q3 q4 => (b2 z q1 q2 q3 q4).trans (a2 z q1 q2 q3 q4), fun z q1 q2 q3 => (b3 z q1 q2 q3).trans (a3 z q1 q2 q3), ⟨e1 ++ e2, by rw [b4, a4, List.append_assoc]⟩, fun t ht => (b5 t (by omega)).trans (a5 t ht), fun t q1 q2 => ?_⟩
  by_cases h : t < 3 * T1.length
  · rw [b5 t h]; exact a6 t q1 h
  · exact b6 t (by omega) q2
theorem gw_frN {s' : sT} {T : List Cond} {y : Cond} (h : frN s s' T.length) : gw s s' T (T ++ [y]) := by
  obtain ⟨a1, a2, a3, a4, a5⟩ := h
  refine ⟨a1, fun z q1 q2 q3 _ => a2 z q1 q2 q3, fun z q1 q2 _ => a3 z q1 q2, ⟨[y], rfl⟩, fun t ht => a4 t (Or.inl ht), fun t q1 q2 => ?_⟩
  rw [List.length_append, List.length_singleton] at q2
  have := a5 (t - 3 * T.length) (by omega)
  rw [show 3 * T.length + (t - 3 * T.length) = t by omega] at this
  exact this
/-- a write to the row -/
theorem gw_row {T : List Cond} {i : Nat} {x : Int32} : gw s (pV s 200 i x) T T :=
  ⟨rfl, fun z _ _ _ h => by funext t; rw [pV_1, if_neg (fun q => h q.1)], fun z _ _ _ => by rw [pV_1, if_neg (by omega)], ⟨[], (List.append_nil _).symm⟩, fun t _ => by rw [pV_1, if_neg (by omega)], fun t h1 h2 => by omega⟩
theorem rN_off {v v' : Nat → Nat → Int32} {T : List Cond} {off : Nat → Nat} {p : Nat} (h : rN v T off p) (h1 : v' 186 12 = v 186 12) (h2 : v' 186 13 = v 186 13) (h3 : ∀ z, 190 ≤ z → z ≤ 196 → v' z = v z) : rN v' T off p := by
  unfold rN ndO at h ⊢
  rw [h1, h2, h3 190 (by decide) (by decide), h3 191 (by decide) (by decide), h3 192 (by decide) (by decide), h3 193 (by decide) (by decide), h3 194 (by decide) (by decide), h3 195 (by decide) (by decide), h3 196 (by decide) (by decide)]
  exact h
theorem kd_01 {x : Cond} (cx : cn x) (h : kd x < 2) : x = S0 ∨ x = S1 := by
  cases x with
  | count k =>
    have h' : (if k = 0 then 0 else if k = 1 then 1 else 2) < 2 := h
    by_cases h0 : k = 0
    · subst h0; exact Or.inl rfl
    · by_cases h1 : k = 1
      · subst h1; exact Or.inr rfl
      · rw [if_neg h0, if_neg h1] at h'; omega
  | or a b => exact absurd h (show ¬ 3 < 2 by decide)
  | and a b => exact absurd h (show ¬ 4 < 2 by decide)
  | not a => exact absurd h (show ¬ 5 < 2 by decide)
  | _ => exact cx.elim
theorem kd_5 {x : Cond} (cx : cn x) : kd x = 5 ↔ isStar x = true := by
  cases x with
  | count k => exact ⟨fun h => by have := kd_atom k; omega, fun h => by cases h⟩
  | or a b => exact ⟨(fun h => by cases h), (fun h => by cases h)⟩
  | and a b => exact ⟨(fun h => by cases h), (fun h => by cases h)⟩
  | not a => exact ⟨fun _ => rfl, fun _ => rfl⟩
  | _ => exact cx.elim
theorem r_star {T : List Cond} {off : Nat → Nat} {p k : Nat} {x : Cond} (hM : rM s.2) (hT : rN s.1 T off p) (hp : p + 1 ≤ 24000) (hl : T.length < 1500) (hx : T[k]? = some x) (hs : shN x < 100000) (hns : ns x < 100000)
    (h : ∀ s' T' off' p' j, rN s'.1 T' off' p' → gw s s' T T' → T'.length ≤ T.length + 1 → p' ≤ p + 1 → T'[j]? = some (sStar x) → K (some (nI j)) s') : tT (yY L xs) (d + 3) 160 0 [.ref 186, .int (nI k)] [] s K := by
  have hk := (List.getElem?_eq_some_iff.mp hx).1
  have cx := hT.2.2.2.1 x (List.mem_of_getElem? hx)
  have hnd := (hT.2.2.2.2.2 k x hx).1
  have hkd := kd_le x
  refine b_160_0 ⟨190, ⟨so_186, rm_186_5 hM⟩, 1500, ⟨sa_190, inR_nI (by omega) (by decide)⟩, ?_⟩
  rw [nI_cl (show k < 2147483648 by omega), hnd.1]
  by_cases h2 : 2 ≤ kd x
  · rw [if_pos (by rw [nI_lit 2, nJ_le (by omega) (by omega)]; exact h2)]
    have n01 : ¬ (x = S0 ∨ x = S1) := by
      rintro (e | e) <;> rw [e] at h2 <;> exact absurd h2 (by decide)
    refine ⟨190, ⟨so_186, rm_186_5 hM⟩, 1500, ⟨sa_190, inR_nI (by omega) (by decide)⟩, ?_⟩
    rw [hnd.1]
    by_cases h5 : kd x = 5
    · rw [if_neg (by rw [h5]; decide)]
      refine h s T off p k hT (gw_refl s T) (by omega) (by omega) ?_
      unfold sStar
      rw [if_neg n01, if_pos ((kd_5 cx).mp h5)]
      exact hx
    · rw [if_pos (by rw [nI_lit 5, nJ_eq (by omega) (by omega)]; exact h5)]
      have hst : isStar x = false := by
        cases e : isStar x with
        | false => rfl
        | true => exact absurd ((kd_5 cx).mpr e) h5
      have es : sStar x = .not x := by
        unfold sStar
        rw [if_neg n01, if_neg (by rw [hst]; decide)]
      rw [es] at h
      refine ⟨200, ⟨so_186, rm_186_18 hM⟩, 400, ⟨sa_200, inR_nI (k := 0) (by decide) (by decide)⟩, so_186, ?_⟩
      have hT1 : rN (pV s 200 0 (nI k)).1 T off p := rN_off hT (by rw [pV_1, if_neg (by omega)]) (by rw [pV_1, if_neg (by omega)]) (fun z q1 q2 => by funext t; rw [pV_1, if_neg (by omega)])
      have hi0 : ∀ i, i < [k].length → i = 0 := fun i hi => Nat.lt_one_iff.mp hi
      refine r_kept (y := .not x) (js := [k]) (T := T) (off := off) (p := p) hM hT1 hp hl ⟨cx, hst, fun e => n01 (Or.inl e), fun e => n01 (Or.inr e)⟩ (show 3 ≤ 5 by decide) (show 1 ≤ 400 by decide) (fun i hi => ?_) rfl (fun i hi => ?_) (fun i hi => ?_) (fun z hz => ?_) (fun j hj => ?_) (fun hy s' r1 r2 => ?_)
      · rw [hi0 i hi, pV_1, if_pos ⟨rfl, rfl⟩]; rfl
      · rw [hi0 i hi]; exact hx
      · rcases (show i = 0 ∨ i = 1 by have : i ≤ 1 := hi; omega) with rfl | rfl
        · exact ⟨show 0 < 100000 by decide, show 0 < 100000 by decide⟩
        · exact ⟨show 0 < 100000 by decide, show max 0 (ns x) < 100000 by omega⟩
      · have e : z = x := List.mem_singleton.mp hz
        rw [e]
        exact ⟨hs, hns, fun e => n01 (Or.inl e)⟩
      · rw [rt_some]
        exact b_160_37 (h _ T off p j hT1 gw_row (by omega) (by omega) hj)
      · rw [rt_some]
        refine b_160_37 (h s' (T ++ [.not x]) _ _ T.length r1 (gw_trans gw_row (gw_frN r2)) (by rw [List.length_append]; exact Nat.le_refl _) (Nat.le_refl _) ?_)
        rw [List.getElem?_append_right (Nat.le_refl _), Nat.sub_self]; rfl
  · rw [if_neg (by rw [nI_lit 2, nJ_le (by omega) (by omega)]; exact h2)]
    have h01 := kd_01 cx (by omega)
    have es : sStar x = S1 := by unfold sStar; rw [if_pos h01]
    rw [es] at h
    exact h s T off p 1 hT (gw_refl s T) (by omega) (by omega) (hT.2.2.2.2.1 1 (by decide))
end RS
