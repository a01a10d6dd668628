/-! READING, BY THE CLASS: its state; blanks -/
def sq (n : Nat) : Nat := n * n
theorem sq_add (a b : Nat) : sq a + sq b ≤ sq (a + b) := by
  unfold sq
  rw [Nat.add_mul, Nat.mul_add, Nat.mul_add]
  omega
theorem sq_1 (n : Nat) : sq (n + 1) = sq n + 2 * n + 1 := by
  unfold sq
  rw [Nat.add_mul, Nat.mul_add]
  omega
theorem sq_2 (n : Nat) : sq (n + 2) = sq n + 4 * n + 4 := by
  rw [show n + 2 = n + 1 + 1 from rfl, sq_1, sq_1]; omega
theorem sq_mono {a b : Nat} (h : a ≤ b) : sq a ≤ sq b := Nat.mul_le_mul h h
theorem sq_68 {a : Nat} (h : a ≤ 68) : sq a ≤ 4624 := sq_mono h
/-- blanks ahead -/
def nb : List Int32 → Nat
  | [] => 0
  | c :: r => if c = 32 then nb r + 1 else 0
theorem nb_le : ∀ r, nb r ≤ r.length
  | [] => Nat.le_refl _
  | c :: r => by
    have := nb_le r
    unfold nb
    rw [List.length_cons]
    split <;> omega
theorem nb_rd {ss ps : List Cond} {bl : List (List Cond × List Cond)} {mu : Bool} : ∀ (r : List Int32) (k : Nat), rd r k ss ps bl mu = rd (r.drop (nb r)) (k + nb r) ss ps bl mu
  | [], k => rfl
  | c :: r, k => by
    unfold nb
    by_cases h : c = 32
    · rw [if_pos h, rd_cons, if_pos h, nb_rd r (k + 1), List.drop_succ_cons, show k + (nb r + 1) = k + 1 + nb r by omega]
    · rw [if_neg h, List.drop_zero, Nat.add_zero]
theorem nb_hd : ∀ (r : List Int32) (c : Int32) (r' : List Int32), r.drop (nb r) = c :: r' → c ≠ 32
  | [], c, r', h => by cases h
  | b :: r, c, r', h => by
    unfold nb at h
    by_cases hb : b = 32
    · rw [if_pos hb, List.drop_succ_cons] at h
      exact nb_hd r c r' h
    · rw [if_neg hb, List.drop_zero] at h
      cases h
      exact hb
theorem nb_0 {c : Int32} {r : List Int32} (h : c ≠ 32) : nb (c :: r) = 0 := by
  unfold nb; rw [if_neg h]
theorem nb_s {c : Int32} {r : List Int32} (h : c = 32) : nb (c :: r) = nb r + 1 := by
  show (if c = 32 then nb r + 1 else 0) = _
  rw [if_pos h]
theorem nb_ct : ∀ r : List Int32, (r.drop (nb r)).count 40 = r.count 40
  | [] => rfl
  | c :: r => by
    unfold nb
    by_cases h : c = 32
    · rw [if_pos h, List.drop_succ_cons, nb_ct r, List.count_cons, if_neg (by rw [h]; decide)]; omega
    · rw [if_neg h, List.drop_zero]
/-- begins an atom -/
def begA (c : Int32) : Bool := decide (c = 48 ∨ c = 49 ∨ c = 40 ∨ c = 97 ∨ c = 98 ∨ c = 99)
theorem begA_or {c : Int32} (h : begA c = true) : c = 40 ∨ ∃ a, a < 5 ∧ c = atB a := by
  have h' := of_decide_eq_true h
  rcases h' with e | e | e | e | e | e
  · exact Or.inr ⟨0, by decide, e⟩
  · exact Or.inr ⟨1, by decide, e⟩
  · exact Or.inl e
  · exact Or.inr ⟨2, by decide, e⟩
  · exact Or.inr ⟨3, by decide, e⟩
  · exact Or.inr ⟨4, by decide, e⟩
theorem begA_no {c : Int32} (h : begA c = false) : atK c = none ∧ c ≠ 40 := by
  have h' := of_decide_eq_false h
  refine ⟨?_, fun e => h' (Or.inr (Or.inr (Or.inl e)))⟩
  unfold atK
  rw [if_neg (fun e => h' (Or.inl e)), if_neg (fun e => h' (Or.inr (Or.inl e))), if_neg (fun e => h' (Or.inr (Or.inr (Or.inr (Or.inl e))))), if_neg (fun e => h' (Or.inr (Or.inr (Or.inr (Or.inr (Or.inl e)))))), if_neg (fun e => h' (Or.inr (Or.inr (Or.inr (Or.inr (Or.inr e))))))]
/-- the reader reads txt, the first bytes of the text t -/
def tR (L : Nat) (xs : Nat → Int32) (s : sT) (t : Nat) (txt : List Int32) : Prop := rP s.2 ∧ s.2 11 1 = some t ∧ s.1 11 2 = nI txt.length ∧ (t = 9 ∨ 61 < t) ∧ txt.length ≤ 68 ∧ (∃ cap size, tX (yY L xs) s.2 t cap ∧ s.1 t 1 = nI size ∧ txt.length ≤ size ∧ size ≤ cap) ∧ ∀ i c, txt[i]? = some c → s.1 (t + 1) i = c
section RE
variable {L : Nat} {xs : Nat → Int32} {d : Nat} {s : sT} {K : Option Int32 → sT → Prop} {t : Nat} {txt : List Int32}
theorem tR_off {s' : sT} (h : tR L xs s t txt) (h2 : s'.2 = s.2) (hz : ∀ z, 8 < z → z ≠ 11 → s'.1 z = s.1 z) (h11 : s'.1 11 2 = s.1 11 2) : tR L xs s' t txt := by
  obtain ⟨a1, a2, a3, a4, a5, ⟨cap, size, b1, b2, b3, b4⟩, a7⟩ := h
  refine ⟨by rw [h2]; exact a1, by rw [h2]; exact a2, h11.trans a3, a4, a5, ⟨cap, size, by rw [h2]; exact b1, by rw [hz t (by omega) (by omega)]; exact b2, b3, b4⟩, fun i c hc => ?_⟩
  rw [hz (t + 1) (by omega) (by omega)]
  exact a7 i c hc
/-- only the place changes -/
def nxS (s s' : sT) (k : Nat) : Prop := s'.2 = s.2 ∧ (∀ z, z ≠ 11 → s'.1 z = s.1 z) ∧ (∀ i, i ≠ 3 → s'.1 11 i = s.1 11 i) ∧ s'.1 11 3 = nI k
theorem c_next : ∀ (q k : Nat) (s : sT), q + k = txt.length → tR L xs s t txt → s.1 11 3 = nI k → (∀ s', nxS s s' (k + nb (txt.drop k)) → txt.drop (k + nb (txt.drop k)) = [] → K (some (-1)) s') → (∀ s' c r, nxS s s' (k + nb (txt.drop k)) → txt.drop (k + nb (txt.drop k)) = c :: r → c ≠ 32 → K (some c) s') → tT (yY L xs) (d + 1) 27 0 [.ref 11] [] s K := by
  intro q
  induction q with
  | zero =>
    intro k s hk hR h3 h1 h2
    have hn := hR.2.2.2.2.1
    have e : txt.drop k = [] := List.drop_eq_nil_of_le (by omega)
    rw [e] at h1
    refine b_27_0 ⟨so_11, so_11, ?_⟩
    rw [hR.2.2.1, h3, if_pos (by rw [nJ_le (by omega) (by omega)]; omega)]
    refine b_27_40 ⟨so_11, so_11, ?_⟩
    rw [hR.2.2.1, h3, if_pos (by rw [nJ_le (by omega) (by omega)]; omega)]
    exact h1 s ⟨rfl, fun _ _ => rfl, fun _ _ => rfl, h3⟩ e
  | succ q ih =>
    intro k s hk hR h3 h1 h2
    have hn := hR.2.2.2.2.1
    have hk' : k < txt.length := by omega
    have ed : txt.drop k = txt[k] :: txt.drop (k + 1) := List.drop_eq_getElem_cons hk'
    have hc : s.1 (t + 1) k = txt[k] := hR.2.2.2.2.2.2 k _ (List.getElem?_eq_getElem hk')
    have hR' := hR
    obtain ⟨a1, a2, a3, a4, a5, ⟨cap, size, b1, b2, b3, b4⟩, a7⟩ := hR'
    refine b_27_0 ⟨so_11, so_11, ?_⟩
    rw [a3, h3, if_neg (by rw [nJ_le (by omega) (by omega)]; omega)]
    refine ⟨t, ⟨so_11, a2⟩, so_11, b1.1, x_at_in b1 b2 b4 (by omega) ?_⟩
    rw [rt_some, hc]
    refine b_27_22 ?_
    by_cases e : txt[k] = 32
    · rw [if_neg (fun q => q e)]
      refine ⟨so_11, so_11, ?_⟩
      rw [h3, ← nI_succ]
      have en : nb (txt.drop k) = nb (txt.drop (k + 1)) + 1 := by rw [ed]; exact nb_s e
      have ek : k + nb (txt.drop k) = k + 1 + nb (txt.drop (k + 1)) := by omega
      rw [ek] at h1 h2
      have tr : ∀ s' k', nxS (pV s 11 3 (nI (k + 1))) s' k' → nxS s s' k' := fun s' k' g => ⟨g.1, fun z hz => by rw [g.2.1 z hz]; funext u; rw [pV_1, if_neg (by omega)], fun i hi => by rw [g.2.2.1 i hi, pV_1, if_neg (by omega)], g.2.2.2⟩
      exact ih (k + 1) _ (by omega) (tR_off hR rfl (fun z _ hz => by funext u; rw [pV_1, if_neg (by omega)]) (by rw [pV_1, if_neg (by omega)])) (by rw [pV_1, if_pos ⟨rfl, rfl⟩]) (fun s' g => h1 s' (tr s' _ g)) (fun s' c r g => h2 s' c r (tr s' _ g))
    · rw [if_pos e]
      have en : nb (txt.drop k) = 0 := by rw [ed]; exact nb_0 e
      rw [en, Nat.add_zero] at h2
      refine b_27_40 ⟨so_11, so_11, ?_⟩
      rw [a3, h3, if_neg (by rw [nJ_le (by omega) (by omega)]; omega)]
      refine ⟨t, ⟨so_11, a2⟩, so_11, b1.1, x_at_in b1 b2 b4 (by omega) ?_⟩
      rw [rt_some, hc]
      exact b_27_62 (h2 s _ _ ⟨rfl, fun _ _ => rfl, fun _ _ => rfl, h3⟩ ed e)
theorem c_begins {c : Int32} (h : K (some (bz (begA c))) s) : tT (yY L xs) d 28 0 [.int c] [] s K := by
  refine b_28_0 ?_
  by_cases h1 : c = 48
  · rw [if_pos h1]; rw [show begA c = true from decide_eq_true (Or.inl h1)] at h; exact h
  · rw [if_neg h1]
    by_cases h2 : c = 49
    · rw [if_pos h2]; rw [show begA c = true from decide_eq_true (Or.inr (Or.inl h2))] at h; exact h
    · rw [if_neg h2]
      by_cases h3 : c = 40
      · rw [if_pos h3]; rw [show begA c = true from decide_eq_true (Or.inr (Or.inr (Or.inl h3)))] at h; exact h
      · rw [if_neg h3]
        by_cases h4 : c < 97
        · rw [if_pos h4]
          rw [show begA c = false from decide_eq_false (by
            rintro (e | e | e | e | e | e)
            · exact h1 e
            · exact h2 e
            · exact h3 e
            · rw [e] at h4; exact absurd h4 (by decide)
            · rw [e] at h4; exact absurd h4 (by decide)
            · rw [e] at h4; exact absurd h4 (by decide))] at h
          exact h
        · rw [if_neg h4]
          by_cases h5 : (99 : Int32) < c
          · rw [if_pos h5]
            rw [show begA c = false from decide_eq_false (by
              rintro (e | e | e | e | e | e)
              · exact h1 e
              · exact h2 e
              · exact h3 e
              · rw [e] at h5; exact absurd h5 (by decide)
              · rw [e] at h5; exact absurd h5 (by decide)
              · rw [e] at h5; exact absurd h5 (by decide))] at h
            exact h
          · rw [if_neg h5]
            rw [show begA c = true from decide_eq_true (Or.inr (Or.inr (Or.inr (abc_of h4 h5))))] at h
            exact h
/-- what reading leaves as it was -/
def fR (s s' : sT) (m : Nat) : Prop := s'.2 = s.2 ∧ (∀ z, (z = 0 ∨ 8 < z) → z ≠ 11 → s'.1 z = s.1 z) ∧ (∀ u, u < m → s'.1 8 u = s.1 8 u) ∧ s'.1 11 2 = s.1 11 2
theorem fR_refl (s : sT) (m : Nat) : fR s s m := ⟨rfl, fun _ _ _ => rfl, fun _ _ => rfl, rfl⟩
theorem fR_trans {s1 s2 : sT} {m : Nat} (h1 : fR s s1 m) (h2 : fR s1 s2 m) : fR s s2 m := ⟨h2.1.trans h1.1, fun z a b => (h2.2.1 z a b).trans (h1.2.1 z a b), fun u a => (h2.2.2.1 u a).trans (h1.2.2.1 u a), h2.2.2.2.trans h1.2.2.2⟩
theorem fR_mono {s1 : sT} {m n : Nat} (h : fR s s1 n) (hm : m ≤ n) : fR s s1 m := ⟨h.1, h.2.1, fun u a => h.2.2.1 u (by omega), h.2.2.2⟩
theorem fR_fT {s1 : sT} {m : Nat} (h : fT s s1 m) : fR s s1 m := ⟨h.1, fun z a _ => h.2.1 z a, h.2.2, by rw [h.2.1 11 (by decide)]⟩
theorem fR_nx {s1 : sT} {m k : Nat} (h : nxS s s1 k) : fR s s1 m := ⟨h.1, fun z _ b => h.2.1 z b, fun u _ => by rw [h.2.1 8 (by decide)], h.2.2.1 2 (by decide)⟩
theorem fR_put {s1 : sT} {m i : Nat} {x : Int32} (h : fR s s1 m) (hi : i ≠ 2) : fR s (pV s1 11 i x) m := ⟨h.1, fun z a b => by rw [← h.2.1 z a b]; funext u; rw [pV_1, if_neg (by omega)], fun u a => by rw [pV_1, if_neg (by omega)]; exact h.2.2.1 u a, by rw [pV_1, if_neg (by omega)]; exact h.2.2.2⟩
theorem tR_fR {s' : sT} {m : Nat} (h : tR L xs s t txt) (hf : fR s s' m) : tR L xs s' t txt := tR_off h hf.1 (fun z a b => hf.2.1 z (Or.inr a) b) hf.2.2.2
theorem tc_nx {s1 : sT} {T : List Cond} {p k : Nat} (h : tc s T p) (hf : nxS s s1 k) : tc s1 T p := tc_off h hf.1 (by rw [hf.2.1 1 (by decide)]) (by rw [hf.2.1 1 (by decide)]) (fun z _ _ => hf.2.1 z (by omega))
theorem tc_put11 {T : List Cond} {p i : Nat} {x : Int32} (h : tc s T p) : tc (pV s 11 i x) T p := tc_off h rfl (by rw [pV_1, if_neg (by omega)]) (by rw [pV_1, if_neg (by omega)]) (fun z _ _ => by funext u; rw [pV_1, if_neg (by omega)])
end RE
/-- how reading ends: well, or with a fault -/
def rO (txt : List Int32) (k k' N : Nat) (s' : sT) (G : Prop) : Prop := s'.1 11 3 = nI k' ∧ k ≤ k' ∧ k' ≤ txt.length ∧ ((s'.1 11 4 = -1 ∧ N + k = k' ∧ G) ∨ ∃ f, s'.1 11 4 = nI f ∧ f ≤ txt.length ∧ rd txt 0 [] [] [] true = .inl f ∧ txt.length ≤ 30 ∧ N ≤ 2 * (k' - k) + 1)
/-- no sum goes on here -/
def stopS (r : List Int32) : Prop := ∀ c r', r = c :: r' → c ≠ 32 ∧ begA c = false ∧ c ≠ 42 ∧ c ≠ 43
/-- what is asked of a state in which something is read from k on -/
def rdP (L : Nat) (xs : Nat → Int32) (t : Nat) (txt : List Int32) (s : sT) (T : List Cond) (p m k dep : Nat) : Prop := tR L xs s t txt ∧ tc s T p ∧ s.1 1 9 = nI m ∧ s.1 11 3 = nI k ∧ s.1 11 4 = -1 ∧ k ≤ txt.length ∧ m ≤ k ∧ T.length ≤ 5 + 2 * k ∧ 8 * p ≤ 3 * sq k + 8 * k ∧ dep + (txt.drop k).count 40 ≤ 40
def sumK (txt : List Int32) (s : sT) (T : List Cond) (p m k : Nat) (bl : List (List Cond × List Cond)) (K : Option Int32 → sT → Prop) : Prop := ∀ s' T' p' j x N k', tc s' T' p' → (∃ e, T' = T ++ e) → T'[j]? = some x → cn x → 1 ≤ N → z0 x ≤ N → T'.length ≤ T.length + 2 * N → 8 * p' ≤ 8 * p + 3 * sq N + 12 * N + 4 → fR s s' m → s'.1 1 9 = nI m → rO txt k k' N s' (∃ ss ps, rd txt 0 [] [] [] true = rd (txt.drop k') k' ss ps bl false ∧ x = sSum (ss ++ [sProd ps]) ∧ stopS (txt.drop k')) → K (some (nI j)) s'
def sumOK (L : Nat) (xs : Nat → Int32) (t : Nat) (txt : List Int32) (D q : Nat) : Prop := ∀ s T p m k dep bl K, rdP L xs t txt s T p m k dep → (txt.drop k).count 40 < q → rd txt 0 [] [] [] true = rd (txt.drop k) k [] [] bl true → sumK txt s T p m k bl K → tT (yY L xs) D 23 0 [.ref 11, .int (nI dep), .null, .null, .null] [] s K
