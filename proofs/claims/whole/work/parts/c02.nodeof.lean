/-! THE NODE OF A SHAPE, by the class -/
def lmC (l : List Cond) : Nat → Nat
  | 0 => 68
  | i + 1 => min (lmC l i) (shN (l.getD i S0))
theorem lmC_ac (l : List Cond) : ∀ i, lmC l (i + 1) = min 68 (acS 3 l (i + 1))
  | 0 => rfl
  | i + 1 => by
    have e1 : lmC l (i + 1 + 1) = min (lmC l (i + 1)) (shN (l.getD (i + 1) S0)) := rfl
    have e2 : acS 3 l (i + 1 + 1) = min (acS 3 l (i + 1)) (shN (l.getD (i + 1) S0)) := rfl
    rw [e1, e2, lmC_ac l i]
    omega
/-- what the class makes out of children: shortest, nest -/
theorem lm_node {y : Cond} (cy : cn y) (h : 1 ≤ kC y) (hz : z0 y ≤ 68) : (if kC y = 3 then 0 else if kC y = 1 then lmC (chl y) (chl y).length else acS 4 (chl y) (chl y).length) = shN y ∧ (if kC y = 3 then acD (chl y) (chl y).length + 1 else acD (chl y) (chl y).length) = ns y := by
  have hk := (kC_kd cy).2 h
  obtain ⟨a1, a2, -⟩ := ac_node cy (by omega)
  have hs := (sh_z cy).1
  cases y with
  | or a b =>
    refine ⟨?_, a2⟩
    show lmC (a :: sumL b) ((sumL b).length + 1) = _
    rw [lmC_ac]
    have : acS 3 (a :: sumL b) ((sumL b).length + 1) = shN (.or a b) := a1
    rw [this]
    omega
  | and a b => exact ⟨a1, a2⟩
  | not a => exact ⟨rfl, a2⟩
  | _ => exact absurd h (show ¬ 1 ≤ 0 by decide)
section NC
variable {L : Nat} {xs : Nat → Int32} {d : Nat} {s : sT} {K : Option Int32 → sT → Prop} {T : List Cond} {p : Nat}
theorem c_hasChildren {m k : Nat} {l : List Cond} {y : Cond} (h : tc s T p) (ho : opO s.1 T m l) (hl : m + l.length ≤ 136) (hk : T[k]? = some y) (h5 : 1 ≤ kC y) (h1 : chl y = l → K (some 1) s) (h0 : chl y ≠ l → K (some 0) s) : tT (yY L xs) d 100 0 [.ref 1, .int (nI k), .int (nI m), .null] [] s K := by
  have hkl := tc_lt h hk
  have hP := h.1
  have h' := h
  obtain ⟨-, h160, hp, off, hN⟩ := h'
  obtain ⟨⟨n1, n2, n3, n4, n5, n6⟩, n7⟩ := hN.2.2.2.2.2.2 k y hk
  have ck : (nI k).toNatClampNeg = k := nI_cl (by omega)
  have ink : inR (nI k) 160 := inR_nI hkl.1 (by decide)
  refine b_100_0 ⟨4, ⟨so_1, rp_1_2 hP⟩, 160, ⟨sa_4, ink⟩, so_1, ?_⟩
  rw [ck, n2, ho.1, nJ_sub (by omega), show m + l.length - m = l.length by omega]
  by_cases hlen : (chl y).length = l.length
  · rw [if_pos (by rw [hlen])]
    have loop : ∀ q i, q + i = l.length → (∀ t, t < i → (chl y)[t]? = l[t]?) → tT (yY L xs) d 100 19 [.ref 1, .int (nI k), .int (nI m), .int (nI i)] [] s K := by
      intro q
      induction q with
      | zero =>
        intro i hi hn
        refine b_100_19 ⟨4, ⟨so_1, rp_1_2 hP⟩, 160, ⟨sa_4, ink⟩, ?_⟩
        rw [ck, n2, if_pos (by rw [nJ_le (by omega) (by omega)]; omega)]
        refine h1 (List.ext_getElem? (fun t => ?_))
        by_cases ht : t < l.length
        · exact hn t (by omega)
        · rw [List.getElem?_eq_none (by omega), List.getElem?_eq_none (by omega)]
      | succ q ih =>
        intro i hi hn
        have hi' : i < l.length := by omega
        have hi2 : i < (chl y).length := by omega
        obtain ⟨j, j1, j2⟩ := n6 i _ (List.getElem?_eq_getElem hi2)
        obtain ⟨j', g1, g2⟩ := ho.2 i _ (List.getElem?_eq_getElem hi')
        have hjl := tc_lt h j1
        have hjl' := tc_lt h g1
        refine b_100_19 ⟨4, ⟨so_1, rp_1_2 hP⟩, 160, ⟨sa_4, ink⟩, ?_⟩
        rw [ck, n2, if_neg (by rw [nJ_le (by omega) (by omega)]; omega)]
        refine ⟨7, ⟨so_1, rp_1_5 hP⟩, 3, ⟨so_1, rp_1_1 hP⟩, 160, ⟨sa_3, ink⟩, 2048, ?_⟩
        rw [n5 h5, nJ_add, nJ_add, nI_cl (show off k + i < 2147483648 by omega), nI_cl (show m + i < 2147483648 by omega), j2]
        refine ⟨⟨sa_7, inR_nI (by omega) (by decide)⟩, 8, ⟨so_1, rp_1_6 hP⟩, 136, ⟨sa_8, inR_nI (by omega) (by decide)⟩, ?_⟩
        rw [g2]
        by_cases e : (chl y)[i] = l[i]
        · rw [if_pos (by rw [(tc_eq h j1 g1).mpr e]), ← nI_succ]
          exact ih (i + 1) (by omega) (fun t ht => by
            by_cases et : t = i
            · subst et
              rw [List.getElem?_eq_getElem hi2, List.getElem?_eq_getElem hi', e]
            · exact hn t (by omega))
        · rw [if_neg (by rw [nJ_eq (by omega) (by omega)]; exact fun q => e ((tc_eq h j1 g1).mp q))]
          exact h0 (fun q => e (by
            have := congrArg (fun w => w[i]?) q
            simp only [List.getElem?_eq_getElem hi2, List.getElem?_eq_getElem hi'] at this
            exact Option.some.inj this))
    exact loop l.length 0 (by omega) (fun t ht => absurd ht (Nat.not_lt_zero _))
  · rw [if_neg (by rw [nJ_eq (by omega) (by omega)]; exact hlen)]
    exact h0 (fun q => hlen (by rw [q]))
theorem c_newNode {m : Nat} {l : List Cond} {y : Cond} (h : tc s T p) (ho : opO s.1 T m l) (hl : m + l.length ≤ 136) (cy : cn y) (h1 : 1 ≤ kC y) (hz : z0 y ≤ 68) (hc : chl y = l) (hy : y ∉ T) (hT : T.length < 160) (hp : p + l.length ≤ 2048) (hb : ∀ c ∈ l, shN c ≤ 80 ∧ ns c ≤ 80)
    (hK : ∀ s', tc s' (T ++ [y]) (p + l.length) → s'.2 = s.2 → (∀ z, (z = 0 ∨ 7 < z) → s'.1 z = s.1 z) → s'.1 1 9 = s.1 1 9 → K (some (nI T.length)) s') : tT (yY L xs) d 101 0 [.ref 1, .int (nI (kC y)), .int (nI m), .null, .null, .null, .null, .null, .null] [] s K := by
  have hP := h.1
  have h' := h
  obtain ⟨-, h160, hp', off, hN⟩ := h'
  have hkC := kC_le y
  have hS0 : ∀ c ∈ l, c ≠ S0 ∧ cn c := fun c hcl => chl_n0 cy c (by rw [hc]; exact hcl)
  have gb : ∀ i, lmC l i ≤ 68 ∧ acS 4 l i ≤ i * 150 ∧ acD l i ≤ 150 := by
    intro i
    have h2 := ac_le (how := 4) (l := l) (fun z hz => by have := hb z hz; omega) i
    refine ⟨?_, h2.1, h2.2⟩
    cases i with
    | zero => exact Nat.le_refl _
    | succ i => rw [lmC_ac]; omega
  have loop : ∀ q i (s1 : sT) (u8 : Value), q + i = l.length → s1.2 = s.2 → (∀ z, z ≠ 7 → s1.1 z = s.1 z) → (∀ t, (t < p ∨ p + i ≤ t) → s1.1 7 t = s.1 7 t) → (∀ t c, t < i → l[t]? = some c → ∃ j, T[j]? = some c ∧ s1.1 7 (p + t) = nI j) → tT (yY L xs) d 101 44 [.ref 1, .int (nI (kC y)), .int (nI m), .int (nI l.length), .int (nI (lmC l i)), .int (nI (acS 4 l i)), .int (nI (acD l i)), .int (nI (m + i)), u8] [] s1 K := by
    intro q
    induction q with
    | zero =>
      intro i s1 u8 hi g1 g2 g3 g4
      have ei : i = l.length := by omega
      subst ei
      have hP1 : rP s1.2 := by rw [g1]; exact hP
      have e9 : s1.1 1 9 = nI (m + l.length) := by rw [g2 1 (by decide)]; exact ho.1
      have e7 : s1.1 1 7 = nI T.length := by rw [g2 1 (by decide)]; exact hN.1
      have e8 : s1.1 1 8 = nI p := by rw [g2 1 (by decide)]; exact hN.2.1
      have inT : inR (nI T.length) 160 := inR_nI hT (by decide)
      have cT : (nI T.length).toNatClampNeg = T.length := nI_cl (by omega)
      -- the end, with the shortest and the nest
      have fin : ∀ (u8 : Value) (s2 : sT), s2 = pV (pV (pV (pV (pV s1 2 T.length (nI (kC y))) 3 T.length (nI p)) 4 T.length (nI l.length)) 5 T.length (nI (shN y))) 6 T.length (nI (ns y)) → K (some (nI T.length)) (pV (pV s2 1 8 (nI (p + l.length))) 1 7 (nI (T.length + 1))) := by
        intro u8 s2 hs2
        have r : ∀ z t, (pV (pV s2 1 8 (nI (p + l.length))) 1 7 (nI (T.length + 1))).1 z t = if z = 1 ∧ t = 7 then nI (T.length + 1) else if z = 1 ∧ t = 8 then nI (p + l.length) else if z = 6 ∧ t = T.length then nI (ns y) else if z = 5 ∧ t = T.length then nI (shN y) else if z = 4 ∧ t = T.length then nI l.length else if z = 3 ∧ t = T.length then nI p else if z = 2 ∧ t = T.length then nI (kC y) else s1.1 z t := by
          intro z t
          rw [pV_1, pV_1, hs2, pV_1, pV_1, pV_1, pV_1, pV_1]
        generalize hs3 : pV (pV s2 1 8 (nI (p + l.length))) 1 7 (nI (T.length + 1)) = s3 at r
        have e2 : s3.2 = s.2 := by rw [← hs3, hs2]; exact g1
        have y0 : y ≠ S0 := fun e => by rw [e] at h1; exact absurd h1 (by decide)
        refine hK s3 ⟨by rw [e2]; exact hP, ?_, hp, fun k => if k = T.length then p else off k, ?_, ?_, ?_, ?_, ?_, ?_, fun k z hk => ?_⟩ e2 (fun z hz => ?_) ?_
        · rw [List.length_append, List.length_singleton]; omega
        · rw [r, if_pos ⟨rfl, rfl⟩, List.length_append, List.length_singleton]
        · rw [r, if_neg (by omega), if_pos ⟨rfl, rfl⟩]
        · refine List.nodup_append.mpr ⟨hN.2.2.1, nd_one _, fun a ha b hb e => ?_⟩
          rw [List.mem_singleton.mp hb] at e
          exact hy (e ▸ ha)
        · intro z hz
          rcases List.mem_append.mp hz with q | q
          · exact hN.2.2.2.1 z q
          · rw [List.mem_singleton.mp q]; exact cy
        · intro k hk
          exact app_at (hN.2.2.2.2.1 k hk)
        · intro k z hk hz
          by_cases hkT : k < T.length
          · rw [List.getElem?_append_left hkT] at hz
            exact hN.2.2.2.2.2.1 k z hk hz
          · have hi := (List.getElem?_eq_some_iff.mp hz).1
            rw [List.length_append, List.length_singleton] at hi
            rw [show k = T.length by omega, List.getElem?_append_right (Nat.le_refl _), Nat.sub_self] at hz
            cases hz
            exact h1
        · by_cases hkT : k < T.length
          · rw [List.getElem?_append_left hkT] at hk
            obtain ⟨⟨n1, n2, n3, n4, n5, n6⟩, n7⟩ := hN.2.2.2.2.2.2 k z hk
            have rr : ∀ w, 2 ≤ w → w ≤ 6 → s3.1 w k = s.1 w k := fun w h1 h2 => by
              rw [r, if_neg (by omega), if_neg (by omega), if_neg (by omega), if_neg (by omega), if_neg (by omega), if_neg (by omega), if_neg (by omega), g2 w (by omega)]
            show ndC s3.1 (T ++ [y]) k z (if k = T.length then p else off k) ∧ (if k = T.length then p else off k) + (chl z).length ≤ p + l.length
            rw [if_neg (by omega)]
            refine ⟨⟨by rw [rr 2 (by decide) (by decide)]; exact n1, by rw [rr 4 (by decide) (by decide)]; exact n2, by rw [rr 5 (by decide) (by decide)]; exact n3, by rw [rr 6 (by decide) (by decide)]; exact n4, fun q => by rw [rr 3 (by decide) (by decide)]; exact n5 q, fun i c hc => ?_⟩, by omega⟩
            have hi := (List.getElem?_eq_some_iff.mp hc).1
            obtain ⟨j, j1, j2⟩ := n6 i c hc
            refine ⟨j, app_at j1, ?_⟩
            rw [r, if_neg (by omega), if_neg (by omega), if_neg (by omega), if_neg (by omega), if_neg (by omega), if_neg (by omega), if_neg (by omega), g3 _ (by omega)]
            exact j2
          · have hi := (List.getElem?_eq_some_iff.mp hk).1
            rw [List.length_append, List.length_singleton] at hi
            have ek : k = T.length := by omega
            subst ek
            rw [List.getElem?_append_right (Nat.le_refl _), Nat.sub_self] at hk
            cases hk
            show ndC s3.1 (T ++ [y]) T.length y (if T.length = T.length then p else off T.length) ∧ (if T.length = T.length then p else off T.length) + (chl y).length ≤ p + l.length
            rw [if_pos rfl]
            refine ⟨⟨?_, ?_, ?_, ?_, fun _ => ?_, fun i c hci => ?_⟩, by rw [hc]; omega⟩
            · rw [r, if_neg (by omega), if_neg (by omega), if_neg (by omega), if_neg (by omega), if_neg (by omega), if_neg (by omega), if_pos ⟨rfl, rfl⟩]
            · rw [r, if_neg (by omega), if_neg (by omega), if_neg (by omega), if_neg (by omega), if_pos ⟨rfl, rfl⟩, hc]
            · rw [r, if_neg (by omega), if_neg (by omega), if_neg (by omega), if_pos ⟨rfl, rfl⟩]
              unfold sh; rw [if_neg y0]
            · rw [r, if_neg (by omega), if_neg (by omega), if_pos ⟨rfl, rfl⟩]
            · rw [r, if_neg (by omega), if_neg (by omega), if_neg (by omega), if_neg (by omega), if_neg (by omega), if_pos ⟨rfl, rfl⟩]
            · rw [hc] at hci
              have hi := (List.getElem?_eq_some_iff.mp hci).1
              obtain ⟨j, j1, j2⟩ := g4 i c hi hci
              refine ⟨j, app_at j1, ?_⟩
              rw [r, if_neg (by omega), if_neg (by omega), if_neg (by omega), if_neg (by omega), if_neg (by omega), if_neg (by omega), if_neg (by omega)]
              exact j2
        · funext t
          rw [r, if_neg (by omega), if_neg (by omega), if_neg (by omega), if_neg (by omega), if_neg (by omega), if_neg (by omega), if_neg (by omega), g2 z (by omega)]
        · rw [r, if_neg (by omega), if_neg (by omega), if_neg (by omega), if_neg (by omega), if_neg (by omega), if_neg (by omega), if_neg (by omega), g2 1 (by decide)]
      -- behind the shortest
      have at184 : ∀ (u8 : Value), tT (yY L xs) d 101 184 [.ref 1, .int (nI (kC y)), .int (nI m), .int (nI l.length), .int (nI (lmC l l.length)), .int (nI (acS 4 l l.length)), .int (nI (acD l l.length)), .int (nI T.length), u8] [.int (nI (shN y)), .int (nI T.length), .ref 5] (pV (pV (pV s1 2 T.length (nI (kC y))) 3 T.length (nI p)) 4 T.length (nI l.length)) K := by
        intro u8
        refine b_101_184 ⟨160, ⟨sa_5, inT⟩, 6, ⟨so_1, rp_1_4 (show rP s1.2 from hP1)⟩, ?_⟩
        rw [cT]
        have lm := (lm_node cy h1 hz).2
        rw [hc] at lm
        have at205 : ∀ x, x = nI (ns y) → tT (yY L xs) d 101 205 [.ref 1, .int (nI (kC y)), .int (nI m), .int (nI l.length), .int (nI (lmC l l.length)), .int (nI (acS 4 l l.length)), .int (nI (acD l l.length)), .int (nI T.length), u8] [.int x, .int (nI T.length), .ref 6] (pV (pV (pV (pV s1 2 T.length (nI (kC y))) 3 T.length (nI p)) 4 T.length (nI l.length)) 5 T.length (nI (shN y))) K := by
          intro x hx
          subst hx
          refine b_101_205 ⟨160, ⟨sa_6, inT⟩, so_1, so_1, so_1, so_1, ?_⟩
          rw [cT]
          have := fin u8 _ rfl
          have e8' : (pV (pV (pV (pV (pV s1 2 T.length (nI (kC y))) 3 T.length (nI p)) 4 T.length (nI l.length)) 5 T.length (nI (shN y))) 6 T.length (nI (ns y))).1 1 8 = nI p := by
            rw [pV_1, if_neg (by omega), pV_1, if_neg (by omega), pV_1, if_neg (by omega), pV_1, if_neg (by omega), pV_1, if_neg (by omega)]; exact e8
          have e7' : (pV (pV (pV (pV (pV (pV s1 2 T.length (nI (kC y))) 3 T.length (nI p)) 4 T.length (nI l.length)) 5 T.length (nI (shN y))) 6 T.length (nI (ns y))) 1 8 (nI (p + l.length))).1 1 7 = nI T.length := by
            rw [pV_1, if_neg (by omega), pV_1, if_neg (by omega), pV_1, if_neg (by omega), pV_1, if_neg (by omega), pV_1, if_neg (by omega), pV_1, if_neg (by omega)]; exact e7
          rw [e8', nJ_add, e7', ← nI_succ]
          exact this
        by_cases h3 : kC y = 3
        · rw [if_neg (by rw [h3]; exact fun q => q rfl)]
          rw [if_pos h3] at lm
          exact at205 _ (by rw [← lm, nI_succ])
        · rw [if_pos (show ¬ nI (kC y) = 3 from fun e => h3 ((nJ_eq (by omega) (by decide)).mp e))]
          rw [if_neg h3] at lm
          exact at205 _ (by rw [← lm])
      refine b_101_44 ⟨so_1, ?_⟩
      rw [e9, if_pos (Int32.le_refl _)]
      refine ⟨so_1, 2, ⟨so_1, rp_1_0 hP1⟩, 160, ?_⟩
      rw [e7, cT]
      have e8' : (pV s1 2 T.length (nI (kC y))).1 1 8 = nI p := by rw [pV_1, if_neg (by omega)]; exact e8
      refine ⟨⟨sa_2, inT⟩, 3, ⟨so_1, rp_1_1 (show rP s1.2 from hP1)⟩, so_1, 160, ⟨sa_3, inT⟩, 4, ⟨so_1, rp_1_2 (show rP s1.2 from hP1)⟩, 160, ⟨sa_4, inT⟩, 5, ⟨so_1, rp_1_3 (show rP s1.2 from hP1)⟩, ?_⟩
      rw [e8']
      have lm := (lm_node cy h1 hz).1
      rw [hc] at lm
      have a184 := at184 u8
      by_cases h3 : kC y = 3
      · rw [if_neg (by rw [h3]; exact fun q => q rfl)]
        rw [if_pos h3] at lm
        rw [← lm] at a184
        exact a184
      · rw [if_pos (show ¬ nI (kC y) = 3 from fun e => h3 ((nJ_eq (by omega) (by decide)).mp e))]
        rw [if_neg h3] at lm
        by_cases h11 : kC y = 1
        · rw [if_neg (by rw [h11]; exact fun q => q rfl)]
          rw [if_pos h11] at lm
          rw [← lm] at a184
          exact a184
        · rw [if_pos (show ¬ nI (kC y) = 1 from fun e => h11 ((nJ_eq (by omega) (by decide)).mp e))]
          rw [if_neg h11] at lm
          rw [← lm] at a184
          exact a184
    | succ q ih =>
      intro i s1 u8 hi g1 g2 g3 g4
      have hP1 : rP s1.2 := by rw [g1]; exact hP
      have hi' : i < l.length := by omega
      have e9 : s1.1 1 9 = nI (m + l.length) := by rw [g2 1 (by decide)]; exact ho.1
      have e8 : s1.1 1 8 = nI p := by rw [g2 1 (by decide)]; exact hN.2.1
      obtain ⟨j, j1, j2⟩ := ho.2 i _ (List.getElem?_eq_getElem hi')
      have hjl := tc_lt h j1
      have hcm : l[i] ∈ l := List.getElem_mem _
      have hbi := hb _ hcm
      obtain ⟨⟨n1, n2, n3, n4, n5, n6⟩, n7⟩ := hN.2.2.2.2.2.2 j _ j1
      have e5 : s1.1 5 j = nI (shN l[i]) := by
        rw [g2 5 (by decide), n3]; unfold sh; rw [if_neg (hS0 _ hcm).1]
      have e6 : s1.1 6 j = nI (ns l[i]) := by rw [g2 6 (by decide), n4]
      have inj : inR (nI j) 160 := inR_nI hjl.1 (by decide)
      refine b_101_44 ⟨so_1, ?_⟩
      rw [e9, if_neg (by rw [nJ_le (by omega) (by omega)]; omega)]
      refine ⟨8, ⟨so_1, rp_1_6 hP1⟩, 136, ⟨sa_8, inR_nI (by omega) (by decide)⟩, 7, ⟨so_1, rp_1_5 hP1⟩, so_1, 2048, ?_⟩
      rw [nI_cl (show m + i < 2147483648 by omega), g2 8 (by decide), j2, e8, nJ_add, nJ_sub (by omega), show p + (m + i) - m = p + i by omega, nI_cl (show p + i < 2147483648 by omega), nI_cl (show j < 2147483648 by omega)]
      refine ⟨⟨sa_7, inR_nI (by omega) (by decide)⟩, 5, ⟨so_1, rp_1_3 (show rP s1.2 from hP1)⟩, 160, ⟨sa_5, inj⟩, 5, ⟨so_1, rp_1_3 (show rP s1.2 from hP1)⟩, 160, ⟨sa_5, inj⟩, 6, ⟨so_1, rp_1_4 (show rP s1.2 from hP1)⟩, 160, ⟨sa_6, inj⟩, ?_⟩
      have b1 := gb i
      have a5 : (pV s1 7 (p + i) (nI j)).1 5 j = nI (shN l[i]) := by rw [pV_1, if_neg (by omega)]; exact e5
      have a6 : (pV s1 7 (p + i) (nI j)).1 6 j = nI (ns l[i]) := by rw [pV_1, if_neg (by omega)]; exact e6
      rw [a5, a6, nJ_add, ← nI_succ]
      have em : (if nI (shN l[i]) < nI (lmC l i) then nI (shN l[i]) else nI (lmC l i)) = nI (lmC l (i + 1)) := by
        show _ = nI (min (lmC l i) (shN (l.getD i S0)))
        rw [List.getD_eq_getElem?_getD, List.getElem?_eq_getElem hi', Option.getD_some]
        by_cases hlt : shN l[i] < lmC l i
        · rw [if_pos (by rw [nJ_lt (by omega) (by omega)]; exact hlt), Nat.min_eq_right (by omega)]
        · rw [if_neg (by rw [nJ_lt (by omega) (by omega)]; exact hlt), Nat.min_eq_left (by omega)]
      have eD : (if nI (acD l i) < nI (ns l[i]) then nI (ns l[i]) else nI (acD l i)) = nI (acD l (i + 1)) := by
        show _ = nI (max (acD l i) (ns (l.getD i S0)))
        rw [List.getD_eq_getElem?_getD, List.getElem?_eq_getElem hi', Option.getD_some]
        by_cases hlt : acD l i < ns l[i]
        · rw [if_pos (by rw [nJ_lt (by omega) (by omega)]; exact hlt), Nat.max_eq_right (by omega)]
        · rw [if_neg (by rw [nJ_lt (by omega) (by omega)]; exact hlt), Nat.max_eq_left (by omega)]
      have eS : acS 4 l i + shN l[i] = acS 4 l (i + 1) := by
        show _ = acS 4 l i + shN (l.getD i S0)
        rw [List.getD_eq_getElem?_getD, List.getElem?_eq_getElem hi', Option.getD_some]
      rw [em, eD, eS]
      refine ih (i + 1) _ _ (by omega) g1 (fun z hz => by rw [← g2 z hz]; funext t; rw [pV_1, if_neg (by omega)]) (fun t ht => by rw [pV_1, if_neg (by omega)]; exact g3 t (by omega)) (fun t c ht hct => ?_)
      rw [pV_1]
      by_cases et : t = i
      · subst et
        rw [List.getElem?_eq_getElem hi'] at hct
        cases hct
        exact ⟨j, j1, by rw [if_pos ⟨rfl, rfl⟩]⟩
      · rw [if_neg (by omega)]
        exact g4 t c (by omega) hct
  refine b_101_0 ⟨so_1, so_1, ?_⟩
  rw [hN.1, if_neg (by rw [nI_lit 160, nJ_le (by omega) (by omega)]; omega)]
  refine ⟨so_1, ?_⟩
  rw [hN.2.1, ho.1, nJ_sub (by omega), show m + l.length - m = l.length by omega, nJ_add, if_pos (by rw [nI_lit 2048, nJ_le (by omega) (by omega)]; omega)]
  exact loop l.length 0 s .null (by omega) rfl (fun _ _ => rfl) (fun _ _ => rfl) (fun t c ht => absurd ht (Nat.not_lt_zero _))
/-- the node: found, or made -/
theorem c_nodeOf {m : Nat} {l : List Cond} {y : Cond} (h : tc s T p) (ho : opO s.1 T m l) (hl : m + l.length ≤ 136) (cy : cn y) (h1 : 1 ≤ kC y) (hz : z0 y ≤ 68) (hc : chl y = l) (hT : T.length < 160) (hp : p + l.length ≤ 2048)
    (hK : ∀ s' T' p' j, tc s' T' p' → ad T y T' → p' ≤ p + l.length → T'[j]? = some y → s'.2 = s.2 → (∀ z, (z = 0 ∨ 7 < z) → s'.1 z = s.1 z) → s'.1 1 9 = s.1 1 9 → K (some (nI j)) s') : tT (yY L xs) (d + 1) 99 0 [.ref 1, .int (nI (kC y)), .int (nI m), .null] [] s K := by
  have hP := h.1
  have h7 := tc_7 h
  have hkC := kC_le y
  have hkd := (kC_kd cy)
  have loop : ∀ q i, q + i = T.length → 5 ≤ i → (∀ t, t < i → T[t]? ≠ some y) → tT (yY L xs) (d + 1) 99 2 [.ref 1, .int (nI (kC y)), .int (nI m), .int (nI i)] [] s K := by
    intro q
    induction q with
    | zero =>
      intro i hi h5 hn
      refine b_99_2 ⟨so_1, ?_⟩
      rw [h7, if_pos (by rw [nJ_le (by omega) (by omega)]; omega)]
      have hy : y ∉ T := fun hc => by
        obtain ⟨t, ht⟩ := List.getElem?_of_mem hc
        have := (List.getElem?_eq_some_iff.mp ht).1
        exact hn t (by omega) ht
      have hb : ∀ c ∈ l, shN c ≤ 80 ∧ ns c ≤ 80 := fun c hcl => by
        have hcc : c ∈ chl y := by rw [hc]; exact hcl
        have h2 := chl_n0 cy c hcc
        have h3 := z1_chl cy hcc
        have h4 := sh_z h2.2
        have h5 := z01 h2.2
        have h6 := z12 cy
        omega
      refine ⟨so_1, c_newNode h ho hl cy h1 hz hc hy hT hp hb (fun s' q1 q2 q3 q4 => ?_)⟩
      rw [rt_some]
      exact b_99_43 (hK s' _ _ _ q1 (Or.inr ⟨rfl, hy⟩) (Nat.le_refl _) (by rw [List.getElem?_append_right (Nat.le_refl _), Nat.sub_self]; rfl) q2 q3 q4)
    | succ q ih =>
      intro i hi h5 hn
      have hi' : i < T.length := by omega
      have hy' := List.getElem?_eq_getElem hi'
      generalize T[i] = y' at hy'
      have hyl := tc_lt h hy'
      have cy' := tc_cn h hy'
      have h' := h
      obtain ⟨-, -, -, off, hN⟩ := h'
      obtain ⟨⟨n1, -⟩, -⟩ := hN.2.2.2.2.2.2 i y' hy'
      have k1 := hN.2.2.2.2.2.1 i y' h5 hy'
      have hkC' := kC_le y'
      have nxt : y' ≠ y → tT (yY L xs) (d + 1) 99 31 [.ref 1, .int (nI (kC y)), .int (nI m), .int (nI i)] [] s K := by
        intro hne
        refine b_99_31 ?_
        rw [← nI_succ]
        exact ih (i + 1) (by omega) (by omega) (fun t ht => by
          by_cases et : t = i
          · subst et
            rw [hy']
            intro q
            cases q
            exact hne rfl
          · exact hn t (by omega))
      refine b_99_2 ⟨so_1, ?_⟩
      rw [h7, if_neg (by rw [nJ_le (by omega) (by omega)]; omega)]
      refine ⟨2, ⟨so_1, rp_1_0 hP⟩, 160, ⟨sa_2, inR_nI hyl.1 (by decide)⟩, ?_⟩
      rw [nI_cl (by omega), n1]
      by_cases hk : kC y' = kC y
      · rw [if_neg (by rw [hk]; exact fun q => q rfl)]
        refine ⟨so_1, c_hasChildren h ho hl hy' k1 (fun e => ?_) (fun e => ?_)⟩
        · rw [rt_some]
          refine b_99_26 ?_
          rw [if_neg (by decide)]
          have ey : y' = y := kc_eq cy' cy (hkd.1.mp h1) (by rw [(kC_kd cy').2 k1, hkd.2 h1, hk]) (by rw [e, hc])
          rw [ey] at hy'
          exact hK s T p i h (Or.inl ⟨rfl, List.mem_of_getElem? hy'⟩) (by omega) hy' rfl (fun _ _ => rfl) rfl
        · rw [rt_some]
          refine b_99_26 ?_
          rw [if_pos rfl]
          exact nxt (fun q => e (by rw [q, hc]))
      · rw [if_pos (by rw [nJ_eq (by omega) (by omega)]; exact hk)]
        exact nxt (fun q => hk (by rw [q]))
  refine b_99_0 (loop (T.length - 5) 5 ?_ (Nat.le_refl _) (fun t ht => ?_))
  · have := (List.getElem?_eq_some_iff.mp (tc_5 h 4 (by decide))).1
    omega
  · rw [tc_5 h t ht]
    intro q
    cases q
    exact absurd h1 (show ¬ 1 ≤ 0 by decide)
end NC
