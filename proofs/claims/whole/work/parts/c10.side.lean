/-! A SIDE THAT IS BEING MADE: a terms told, b rows of parts -/
def sb (v : Nat → Nat → Int32) (c : Nat) (F : List Cond) (a b : Nat) : Prop := v c 9 = fulM F a ∧ txO v (c + 3) (catT (F.take a)) ∧ (∀ i, i < a → v (c + 5) i = nI (catT (F.take (i + 1))).length) ∧ (∀ i, i < b → v (c + 6) i = setR F i) ∧ (∀ i, i ≤ b → v (c + 7) i = nI (psum (lenR F) i)) ∧ ∀ i, i < psum (lenR F) b → v (c + 8) i = (ptsL F b).getD i 0
/-- row b, as far as it is -/
def rwB (v : Nat → Nat → Int32) (c : Nat) (F : List Cond) (b : Nat) (Rw : List Cond) : Prop := v c 10 = nI b ∧ v (c + 6) b = Rw.foldl (fun a z => a ||| bitI (F.idxOf z)) 0 ∧ v (c + 7) (b + 1) = nI (psum (lenR F) b + Rw.length) ∧ ∀ i z, Rw[i]? = some z → v (c + 8) (psum (lenR F) b + i) = nI (F.idxOf z)
theorem sb_off {v v' : Nat → Nat → Int32} {c : Nat} {F : List Cond} {a b : Nat} (h : sb v c F a b) (h9 : v' c 9 = v c 9) (h3 : v' (c + 3) = v (c + 3)) (h4 : v' (c + 4) = v (c + 4)) (h5 : v' (c + 5) = v (c + 5)) (h6 : ∀ i, i < b → v' (c + 6) i = v (c + 6) i) (h7 : ∀ i, i ≤ b → v' (c + 7) i = v (c + 7) i) (h8 : ∀ i, i < psum (lenR F) b → v' (c + 8) i = v (c + 8) i) : sb v' c F a b := by
  obtain ⟨a1, ⟨a2, a3⟩, a4, a5, a6, a7⟩ := h
  refine ⟨h9.trans a1, ⟨by rw [h3]; exact a2, fun i x hx => by rw [show c + 3 + 1 = c + 4 from rfl, h4]; exact a3 i x hx⟩, fun i hi => by rw [h5]; exact a4 i hi, fun i hi => (h6 i hi).trans (a5 i hi), fun i hi => (h7 i hi).trans (a6 i hi), fun i hi => (h8 i hi).trans (a7 i hi)⟩
section SD
variable {L : Nat} {xs : Nat → Int32} {d : Nat} {s : sT} {K : Option Int32 → sT → Prop} {c a b : Nat} {F Rw : List Cond}
/-- only rows of parts change -/
def fS (s s' : sT) (c : Nat) : Prop := s'.2 = s.2 ∧ ∀ z, z ≠ c + 6 → z ≠ c + 7 → z ≠ c + 8 → s'.1 z = s.1 z
theorem fold_in {z : Cond} (hF : F.Nodup) (h31 : F.length ≤ 31) (hR : ∀ w ∈ Rw, w ∈ F) (hz : z ∈ F) : bt (Rw.foldl (fun a z => a ||| bitI (F.idxOf z)) 0) (F.idxOf z) = decide (z ∈ Rw) := by
  have hl := List.idxOf_lt_length_of_mem hz
  rw [bt_fold (by omega) (fun w hw => by have := List.idxOf_lt_length_of_mem (hR w hw); omega), bt_zero, Bool.false_or]
  by_cases h : z ∈ Rw
  · rw [decide_eq_true h, List.any_eq_true]
    exact ⟨z, h, decide_eq_true rfl⟩
  · rw [decide_eq_false h]
    cases e : Rw.any (fun w => decide (F.idxOf z = F.idxOf w)) with
    | false => rfl
    | true =>
      obtain ⟨w, hw, hd⟩ := List.any_eq_true.mp e
      have h1 := at_idx hz
      have h2 := at_idx (hR w hw)
      rw [of_decide_eq_true hd, h2] at h1
      cases h1
      exact absurd hw h
theorem c_addPart {z : Cond} (hK : sdK (yY L xs) s.2 c) (hb : sb s.1 c F a b) (hr : rwB s.1 c F b Rw) (hF : F.Nodup) (h31 : F.length ≤ 31) (hR : ∀ w ∈ Rw, w ∈ F) (hz : z ∈ F) (hRn : Rw.Nodup) (hb93 : b < 93) (hcap9 : psum (lenR F) b ≤ 930)
    (h : ∀ s', sb s'.1 c F a b → rwB s'.1 c F b (ddp Rw [z]) → fS s s' c → K none s') : tT (yY L xs) d 42 0 [.ref c, .int (nI (F.idxOf z)), .null] [] s K := by
  obtain ⟨k1, ⟨-, -, -, k4, k5, k6⟩, -, -, -, k10, k11, k12⟩ := hK
  obtain ⟨r1, r2, r3, r4⟩ := hr
  have hl := List.idxOf_lt_length_of_mem hz
  have hbit := fold_in hF h31 hR hz
  rw [ddp_one] at h
  refine b_42_0 ⟨c + 7, ⟨k1, k5⟩, k1, 94, ?_⟩
  rw [r1, ← nI_succ, nI_cl (show b + 1 < 2147483648 by omega), nI_cl (show b < 2147483648 by omega), r3]
  refine ⟨⟨k11, inR_nI (by omega) (by decide)⟩, ?_⟩
  rw [if_neg (nI_nn (by omega))]
  refine ⟨c + 8, ⟨k1, k6⟩, 0, 961, k12, ?_⟩
  have hRl := nd_le hRn hR
  by_cases hcap : psum (lenR F) b + Rw.length < 961
  case neg =>
    rw [if_pos (by rw [ofNat_nI, nJ_le (by omega) (by omega)]; omega)]
    have hin : z ∈ Rw := by
      refine Classical.byContradiction (fun hn => ?_)
      have := nd_le (l := z :: Rw) (m := F) (List.nodup_cons.mpr ⟨hn, hRn⟩) (fun w hw => by
        rcases List.mem_cons.mp hw with rfl | hw
        · exact hz
        · exact hR w hw)
      rw [List.length_cons] at this
      omega
    rw [if_pos hin] at h
    exact h s hb ⟨r1, r2, r3, r4⟩ ⟨rfl, fun _ _ _ _ => rfl⟩
  rw [if_neg (by rw [ofNat_nI, nJ_le (by omega) (by omega)]; omega)]
  refine ⟨c + 6, ⟨k1, k4⟩, k1, 93, ⟨k10, inR_nI hb93 (by decide)⟩, ?_⟩
  rw [r2]
  by_cases hin : z ∈ Rw
  · rw [if_neg (fun q => by rw [bt_t0 (by omega), hbit, decide_eq_true hin] at q; cases q)]
    rw [if_pos hin] at h
    exact h s hb ⟨r1, r2, r3, r4⟩ ⟨rfl, fun _ _ _ _ => rfl⟩
  · rw [if_pos (by rw [bt_t0 (by omega), hbit, decide_eq_false hin])]
    rw [if_neg hin] at h
    refine ⟨c + 6, ⟨k1, k4⟩, k1, 93, ⟨k10, inR_nI hb93 (by decide)⟩, 93, ⟨k10, inR_nI hb93 (by decide)⟩, c + 8, ⟨k1, k6⟩, 961, ?_⟩
    rw [nI_cl (show psum (lenR F) b + Rw.length < 2147483648 by omega)]
    refine ⟨⟨k12, inR_nI hcap (by decide)⟩, c + 7, ⟨k1, k5⟩, k1, 94, ?_⟩
    have e10 : ∀ (x y : Int32), (pV (pV s (c + 6) b x) (c + 8) (psum (lenR F) b + Rw.length) y).1 c 10 = nI b := fun x y => by rw [pV_1, if_neg (by omega), pV_1, if_neg (by omega)]; exact r1
    rw [e10, ← nI_succ b, nI_cl (show b + 1 < 2147483648 by omega), ← nI_succ]
    refine ⟨⟨k11, inR_nI (by omega) (by decide)⟩, h _ (sb_off hb ?_ ?_ ?_ ?_ ?_ ?_ ?_) ⟨?_, ?_, ?_, fun i w hw => ?_⟩ ⟨rfl, fun z h1 h2 h3 => ?_⟩⟩
    · rw [pV_1, if_neg (by omega), pV_1, if_neg (by omega), pV_1, if_neg (by omega)]
    · funext u; rw [pV_1, if_neg (by omega), pV_1, if_neg (by omega), pV_1, if_neg (by omega)]
    · funext u; rw [pV_1, if_neg (by omega), pV_1, if_neg (by omega), pV_1, if_neg (by omega)]
    · funext u; rw [pV_1, if_neg (by omega), pV_1, if_neg (by omega), pV_1, if_neg (by omega)]
    · intro i hi; rw [pV_1, if_neg (by omega), pV_1, if_neg (by omega), pV_1, if_neg (by omega)]
    · intro i hi; rw [pV_1, if_neg (by omega), pV_1, if_neg (by omega), pV_1, if_neg (by omega)]
    · intro i hi; rw [pV_1, if_neg (by omega), pV_1, if_neg (by omega), pV_1, if_neg (by omega)]
    · rw [pV_1, if_neg (by omega), pV_1, if_neg (by omega), pV_1, if_neg (by omega)]; exact r1
    · rw [pV_1, if_neg (by omega), pV_1, if_neg (by omega), pV_1, if_pos ⟨rfl, rfl⟩, List.foldl_append, r2]; rfl
    · rw [pV_1, if_pos ⟨rfl, rfl⟩, List.length_append, List.length_singleton]; rfl
    · rw [pV_1, if_neg (by omega), pV_1]
      by_cases e : i < Rw.length
      · rw [List.getElem?_append_left e] at hw
        rw [if_neg (by omega), pV_1, if_neg (by omega)]
        exact r4 i w hw
      · have hil := (List.getElem?_eq_some_iff.mp hw).1
        rw [List.length_append, List.length_singleton] at hil
        have : i = Rw.length := by omega
        subst this
        rw [List.getElem?_append_right (Nat.le_refl _), Nat.sub_self] at hw
        cases hw
        rw [if_pos ⟨rfl, rfl⟩]
    · funext u; rw [pV_1, if_neg (by omega), pV_1, if_neg (by omega), pV_1, if_neg (by omega)]
theorem c_openParts {k x : Nat} (hK : sdK (yY L xs) s.2 c) (hb : sb s.1 c F a (k * 3 + x)) (h6 : s.1 c 6 = nI k) (hb93 : k * 3 + x < 93) (hcap : psum (lenR F) (k * 3 + x) ≤ 961)
    (h : ∀ s', sb s'.1 c F a (k * 3 + x) → rwB s'.1 c F (k * 3 + x) [] → s'.1 c 6 = nI k → s'.2 = s.2 → (∀ z, z ≠ c → z ≠ c + 6 → z ≠ c + 7 → s'.1 z = s.1 z) → (∀ i, i ≠ 10 → s'.1 c i = s.1 c i) → K none s') : tT (yY L xs) d 41 0 [.ref c, .int (nI x)] [] s K := by
  obtain ⟨k1, ⟨-, -, -, k4, k5, k6⟩, -, -, -, k10, k11, k12⟩ := hK
  refine b_41_0 ⟨k1, k1, c + 6, ⟨k1, k4⟩, k1, 93, ?_⟩
  rw [h6, nI_lit 3, nJ_mul, nJ_add]
  generalize hbb : k * 3 + x = b at hb hb93 hcap h
  have e10 : (pV s c 10 (nI b)).1 c 10 = nI b := by rw [pV_1, if_pos ⟨rfl, rfl⟩]
  rw [e10, nI_cl (show b < 2147483648 by omega)]
  have e10' : (pV (pV s c 10 (nI b)) (c + 6) b 0).1 c 10 = nI b := by rw [pV_1, if_neg (by omega)]; exact e10
  refine ⟨⟨k10, inR_nI hb93 (by decide)⟩, c + 7, ⟨k1, k5⟩, k1, c + 7, ⟨k1, k5⟩, k1, 94, ?_⟩
  rw [e10', nI_cl (show b < 2147483648 by omega), ← nI_succ, nI_cl (show b + 1 < 2147483648 by omega)]
  have e7 : (pV (pV s c 10 (nI b)) (c + 6) b 0).1 (c + 7) b = nI (psum (lenR F) b) := by rw [pV_1, if_neg (by omega), pV_1, if_neg (by omega)]; exact hb.2.2.2.2.1 b (Nat.le_refl _)
  rw [e7]
  refine ⟨⟨k11, inR_nI (by omega) (by decide)⟩, 94, ⟨k11, inR_nI (by omega) (by decide)⟩, h _ (sb_off hb ?_ ?_ ?_ ?_ ?_ ?_ ?_) ⟨?_, ?_, ?_, fun i w hw => by cases hw⟩ ?_ rfl (fun z h1 h2 h3 => ?_) (fun i hi => ?_)⟩
  · rw [pV_1, if_neg (by omega), pV_1, if_neg (by omega), pV_1, if_neg (by omega)]
  · funext u; rw [pV_1, if_neg (by omega), pV_1, if_neg (by omega), pV_1, if_neg (by omega)]
  · funext u; rw [pV_1, if_neg (by omega), pV_1, if_neg (by omega), pV_1, if_neg (by omega)]
  · funext u; rw [pV_1, if_neg (by omega), pV_1, if_neg (by omega), pV_1, if_neg (by omega)]
  · intro i hi; rw [pV_1, if_neg (by omega), pV_1, if_neg (by omega), pV_1, if_neg (by omega)]
  · intro i hi; rw [pV_1, if_neg (by omega), pV_1, if_neg (by omega), pV_1, if_neg (by omega)]
  · intro i hi; rw [pV_1, if_neg (by omega), pV_1, if_neg (by omega), pV_1, if_neg (by omega)]
  · rw [pV_1, if_neg (by omega)]; exact e10'
  · rw [pV_1, if_neg (by omega), pV_1, if_pos ⟨rfl, rfl⟩]; rfl
  · rw [pV_1, if_pos ⟨rfl, rfl⟩]; rfl
  · rw [pV_1, if_neg (by omega), pV_1, if_neg (by omega), pV_1, if_neg (by omega)]; exact h6
  · funext u; rw [pV_1, if_neg (by omega), pV_1, if_neg (by omega), pV_1, if_neg (by omega)]
  · rw [pV_1, if_neg (by omega), pV_1, if_neg (by omega), pV_1, if_neg (by omega)]
/-- a row that is whole counts as done -/
theorem sb_row {v : Nat → Nat → Int32} (hb : sb v c F a b) (hr : rwB v c F b (rowP F b)) : sb v c F a (b + 1) := by
  obtain ⟨a1, a2, a4, a5, a6, a7⟩ := hb
  obtain ⟨r1, r2, r3, r4⟩ := hr
  refine ⟨a1, a2, a4, fun i hi => ?_, fun i hi => ?_, fun i hi => ?_⟩
  · by_cases e : i = b
    · subst e; exact r2
    · exact a5 i (by omega)
  · by_cases e : i = b + 1
    · subst e; exact r3
    · exact a6 i (by omega)
  · have hl := ptsL_len F b
    have e2 : ptsL F (b + 1) = ptsL F b ++ (rowP F b).map fun z => nI (F.idxOf z) := rfl
    rw [e2, List.getD_eq_getElem?_getD]
    have hi' : i < psum (lenR F) b + (rowP F b).length := hi
    by_cases e : i < psum (lenR F) b
    · rw [List.getElem?_append_left (by omega), ← List.getD_eq_getElem?_getD]
      exact a7 i e
    · rw [List.getElem?_append_right (by omega), hl, List.getElem?_map, List.getElem?_eq_getElem (show i - psum (lenR F) b < (rowP F b).length by omega)]
      have := r4 (i - psum (lenR F) b) _ (List.getElem?_eq_getElem (by omega))
      rw [show psum (lenR F) b + (i - psum (lenR F) b) = i by omega] at this
      exact this
end SD
