/-! PARTS THAT ARE LAID -/
theorem psum_upd {f f' : Nat → Nat} {i : Nat} (h : ∀ t, t ≠ i → f' t = f t) (h0 : f i = 0) : ∀ n, psum f' n = psum f n + if i < n then f' i else 0
  | 0 => rfl
  | n + 1 => by
    have ih := psum_upd h h0 n
    show psum f' n + f' n = psum f n + f n + _
    rw [ih]
    by_cases e : n = i
    · subst e
      rw [if_neg (by omega), if_pos (by omega), h0]
    · rw [h n e]
      by_cases hi : i < n
      · rw [if_pos hi, if_pos (by omega)]; omega
      · rw [if_neg hi, if_neg (by omega)]; omega
theorem psum_ext {f f' : Nat → Nat} {a : Nat} (h : ∀ t, t < a → f' t = f t) : ∀ n, n ≤ a → psum f' n = psum f n
  | 0, _ => rfl
  | n + 1, hn => by
    show psum f' n + f' n = psum f n + f n
    rw [psum_ext h n (by omega), h n (by omega)]
theorem psum_zero {f : Nat → Nat} {a : Nat} : ∀ n, (∀ t, a ≤ t → t < a + n → f t = 0) → psum f (a + n) = psum f a
  | 0, _ => rfl
  | n + 1, h => by
    show psum f (a + n) + f (a + n) = _
    rw [psum_zero n (fun t h1 h2 => h t h1 (by omega)), h (a + n) (by omega) (by omega)]; rfl
def laidO (v : Nat → Nat → Int32) (T : List Cond) (P k : Nat) (y : Cond) (x : Nat) : Prop := pt3 y ≤ 30 ∧ v 198 (3 * k + x) = nI (pt y x).length ∧ ∃ a, v 197 (3 * k + x) = nI a ∧ a + (pt y x).length ≤ P ∧ ∀ i c, (pt y x)[i]? = some c → ∃ j, T[j]? = some c ∧ v 199 (a + i) = nI j
def lfn (v : Nat → Nat → Int32) (t : Nat) : Nat := if v 198 t = -1 then 0 else (v 198 t).toNatClampNeg
def plO (v : Nat → Nat → Int32) (T : List Cond) (P : Nat) : Prop := v 186 17 = nI P ∧ P = psum (lfn v) (3 * T.length) ∧ ∀ k y x, T[k]? = some y → x < 3 → v 198 (3 * k + x) = -1 ∨ laidO v T P k y x
theorem pt_pt3 (y : Cond) {x : Nat} (hx : x < 3) : (pt y x).length ≤ pt3 y := by
  unfold pt3
  rcases (show x = 0 ∨ x = 1 ∨ x = 2 by omega) with rfl | rfl | rfl <;> omega
theorem plO_le {v : Nat → Nat → Int32} {T : List Cond} {P : Nat} (h : plO v T P) : P ≤ 30 * T.length := by
  obtain ⟨-, h2, h3⟩ := h
  have go : ∀ n, n ≤ T.length → psum (lfn v) (3 * n) ≤ 30 * n := by
    intro n
    induction n with
    | zero => intro _; exact Nat.le_refl _
    | succ n ih =>
      intro hn
      have := ih (by omega)
      have e : psum (lfn v) (3 * (n + 1)) = psum (lfn v) (3 * n) + lfn v (3 * n) + lfn v (3 * n + 1) + lfn v (3 * n + 2) := rfl
      have hy : T[n]? = some (T[n]'(by omega)) := List.getElem?_eq_getElem (by omega)
      generalize T[n]'(by omega) = y at hy
      have cs : ∀ x, x < 3 → lfn v (3 * n + x) = 0 ∨ (pt3 y ≤ 30 ∧ lfn v (3 * n + x) = (pt y x).length) := by
        intro x hx
        rcases h3 n y x hy hx with q | ⟨q1, q2, -⟩
        · left; unfold lfn; rw [if_pos q]
        · right
          refine ⟨q1, ?_⟩
          have hl := pt_pt3 y hx
          unfold lfn
          rw [q2, if_neg (nI_ne_neg (by omega)), nI_cl (by omega)]
      have c0 := cs 0 (by decide)
      have c1 := cs 1 (by decide)
      have c2 := cs 2 (by decide)
      rw [Nat.add_zero] at c0
      rw [e]
      unfold pt3 at c0 c1 c2
      omega
  have := go T.length (Nat.le_refl _)
  omega
section LA
variable {L : Nat} {xs : Nat → Int32} {d : Nat} {s : sT} {K : Option Int32 → sT → Prop}
/-- frame of what gathers parts: the table grows, the row of parts changes -/
def gl (s s' : sT) (T T' : List Cond) : Prop := s'.2 = s.2 ∧ (∀ z, z ≠ 186 → (z < 190 ∨ 196 < z) → z ≠ 198 → z ≠ 200 → z ≠ 201 → z ≠ 209 → s'.1 z = s.1 z) ∧ (∀ z, z ≠ 12 → z ≠ 13 → z ≠ 19 → z ≠ 33 → s'.1 186 z = s.1 186 z) ∧ (∃ e, T' = T ++ e) ∧ (∀ t, t < 3 * T.length → s'.1 198 t = s.1 198 t) ∧ ∀ t, 3 * T.length ≤ t → t < 3 * T'.length → s'.1 198 t = -1
theorem gl_gz {s' : sT} {T T' : List Cond} (h : gz s s' T T') : gl s s' T T' := ⟨h.1, fun z a b c e f _ => h.2.1 z a b c e f, fun z a b c _ => h.2.2.1 z a b c, h.2.2.2.1, h.2.2.2.2.1, h.2.2.2.2.2⟩
theorem gl_refl (s : sT) (T : List Cond) : gl s s T T := gl_gz (gz_refl s T)
theorem gl_trans {s1 s2 : sT} {T T1 T2 : List Cond} (h1 : gl s s1 T T1) (h2 : gl s1 s2 T1 T2) : gl s s2 T T2 := by
  obtain ⟨a1, a2, a3, ⟨e1, a4⟩, a5, a6⟩ := h1
  obtain ⟨b1, b2, b3, ⟨e2, b4⟩, b5, b6⟩ := h2
  have hl : T.length ≤ T1.length := by rw [a4, List.length_append]; omega
  refine ⟨b1.trans a1, fun z q1 q2 q3 q4 q5 q6 => (b2 z q1 q2 q3 q4 q5 q6).trans (a2 z q1 q2 q3 q4 q5 q6), fun z q1 q2 q3 q4 => (b3 z q1 q2 q3 q4).trans (a3 z q1 q2 q3 q4), ⟨e1 ++ e2, by rw [b4, a4, List.append_assoc]⟩, fun t ht => (b5 t (by omega)).trans (a5 t ht), fun t q1 q2 => ?_⟩
  by_cases h : t < 3 * T1.length
  · rw [b5 t h]; exact a6 t q1 h
  · exact b6 t (by omega) q2
theorem gl_put {s1 : sT} {T T1 : List Cond} {c i : Nat} {x : Int32} (h : gl s s1 T T1) (hc : c = 209 ∨ (c = 186 ∧ i = 33)) : gl s (pV s1 c i x) T T1 := by
  obtain ⟨a1, a2, a3, a4, a5, a6⟩ := h
  refine ⟨a1, fun z q1 q2 q3 q4 q5 q6 => by rw [← a2 z q1 q2 q3 q4 q5 q6]; funext t; rw [pV_1, if_neg (by omega)], fun z q1 q2 q3 q4 => by rw [pV_1, if_neg (by omega)]; exact a3 z q1 q2 q3 q4, a4, fun t ht => by rw [pV_1, if_neg (by omega)]; exact a5 t ht, fun t q1 q2 => by rw [pV_1, if_neg (by omega)]; exact a6 t q1 q2⟩
theorem laidO_T {v v' : Nat → Nat → Int32} {T e : List Cond} {P P' k x : Nat} {y : Cond} (h : laidO v T P k y x) (hP : P ≤ P') (h8 : v' 198 (3 * k + x) = v 198 (3 * k + x)) (h7 : v' 197 (3 * k + x) = v 197 (3 * k + x)) (h9 : ∀ t, t < P → v' 199 t = v 199 t) : laidO v' (T ++ e) P' k y x := by
  obtain ⟨a1, a2, a, a3, a4, a5⟩ := h
  refine ⟨a1, by rw [h8]; exact a2, a, by rw [h7]; exact a3, by omega, fun i c hc => ?_⟩
  have hi := (List.getElem?_eq_some_iff.mp hc).1
  obtain ⟨j, g1, g2⟩ := a5 i c hc
  exact ⟨j, app_at g1, by rw [h9 _ (by omega)]; exact g2⟩
theorem plO_gl {s' : sT} {T T' : List Cond} {P : Nat} (h : gl s s' T T') (hp : plO s.1 T P) : plO s'.1 T' P := by
  obtain ⟨a1, a2, a3, ⟨e, a4⟩, a5, a6⟩ := h
  obtain ⟨p1, p2, p3⟩ := hp
  have hl : T'.length = T.length + e.length := by rw [a4, List.length_append]
  refine ⟨by rw [a3 17 (by decide) (by decide) (by decide) (by decide)]; exact p1, ?_, fun k y x hk hx => ?_⟩
  · have z1 : psum (lfn s'.1) (3 * T.length + 3 * e.length) = psum (lfn s'.1) (3 * T.length) := psum_zero _ (fun t h1 h2 => by unfold lfn; rw [if_pos (a6 t h1 (by omega))])
    rw [hl, show 3 * (T.length + e.length) = 3 * T.length + 3 * e.length by omega, z1, psum_ext (f := lfn s.1) (a := 3 * T.length) (fun t ht => by unfold lfn; rw [a5 t ht]) _ (Nat.le_refl _)]
    exact p2
  · by_cases hkl : k < T.length
    · rw [a4, List.getElem?_append_left hkl] at hk
      rw [a5 _ (by omega)]
      rcases p3 k y x hk hx with q | q
      · exact Or.inl q
      · refine Or.inr ?_
        rw [a4]
        exact laidO_T q (Nat.le_refl _) (a5 _ (by omega)) (by rw [a2 197 (by decide) (by decide) (by decide) (by decide) (by decide) (by decide)]) (fun t _ => by rw [a2 199 (by decide) (by decide) (by decide) (by decide) (by decide) (by decide)])
    · have := (List.getElem?_eq_some_iff.mp hk).1
      exact Or.inl (a6 _ (by omega) (by omega))
/-- table, parts; all within U -/
def am (s : sT) (T U : List Cond) (P : Nat) : Prop := tb s T ∧ (∀ z ∈ T, z ∈ U) ∧ plO s.1 T P
def uO (U : List Cond) : Prop := U.length < 1500 ∧ pn U + 150 ≤ 24000
theorem am_len {T U : List Cond} {P : Nat} (h : am s T U P) (hU : uO U) : T.length < 1500 ∧ pn T + 150 ≤ 24000 := by
  have h1 := nd_le (tb_nd h.1) h.2.1
  have h2 := pn_le (tb_nd h.1) h.2.1
  have := hU.1
  have := hU.2
  omega
theorem am_ad {s' : sT} {T T' U : List Cond} {P : Nat} {y : Cond} (h : am s T U P) (hg : gl s s' T T') (ht : tb s' T') (ha : ad T y T') (hy : y ∈ U) : am s' T' U P := ⟨ht, fun z hz => (ad_mem ha hz).elim (h.2.1 z) (fun e => e ▸ hy), plO_gl hg h.2.2⟩
/-- shapes that may come -/
def clW (U : List Cond) (W : Cond → Prop) : Prop := (∀ z, W z → z ∈ U ∧ cn z ∧ z1 z ≤ 150 ∧ pt3 z ≤ 30) ∧ (∀ z c, W z → c ∈ chl z → W c) ∧ (∀ a b, W (.and a b) → W b) ∧ ∀ z l u, W z → u ∈ pt z l → W u
def lin (s : sT) (T : List Cond) (c : Cond) (x : Nat) : Prop := ∃ j, T[j]? = some c ∧ s.1 198 (3 * j + x) ≠ -1
def rdy (s : sT) (T : List Cond) (y : Cond) (x : Nat) : Prop := match y with
  | .or a b => ∀ c ∈ chl (.or a b), lin s T c x
  | .and a b => lin s T a x ∧ (full a = true → lin s T b x)
  | .not a => lin s T a x
  | _ => True
theorem z1_chl {y c : Cond} (cy : cn y) (hc : c ∈ chl y) : z1 c < z1 y := by
  cases y with
  | or a b =>
    have hs := cn_sumL cy c hc
    have e : z1 c = z0 c := by
      have : sp c 0 = sp c 1 := sp_01 hs.2.1
      unfold z1 z0; rw [this]
    have h1 := wL_sumL cy
    have h2 : z0 c + 1 ≤ wL (sumL (.or a b)) := by
      obtain ⟨l1, l2, e⟩ := List.append_of_mem (show c ∈ sumL (.or a b) from hc)
      rw [e, wL_app]
      show _ ≤ _ + (z0 c + 1 + wL l2)
      omega
    have h3 := (z_or a b).1
    have h4 := (z_or a b).2.1
    omega
  | and a b =>
    have h0 : Cond.and a b ≠ S0 := by intro e; cases e
    have h1 : zs (prodL (.and a b)) = z1 (.and a b) := by
      have := (zs_mkP (prodL (.and a b))).2 (List.cons_ne_nil _ _)
      rw [mkP_prodL cy] at this; exact this.symm
    have h2 : 2 ≤ (prodL (.and a b)).length := by
      rw [prodL_and, List.length_cons]
      have := List.length_pos_iff.mpr (prodL_ne cy.2.2.2.2.2.2)
      omega
    obtain ⟨l1, l2, e⟩ := List.append_of_mem (show c ∈ prodL (.and a b) from hc)
    have h3 : ∀ l : List Cond, (∀ z ∈ l, cn z) → l.length ≤ zs l := by
      intro l
      induction l with
      | nil => intro _; exact Nat.le_refl _
      | cons z l ih =>
        intro q
        have := ih (fun w hw => q w (List.mem_cons_of_mem _ hw))
        have := z01 (q z List.mem_cons_self)
        show l.length + 1 ≤ z1 z + zs l
        omega
    have hcn : ∀ z ∈ prodL (.and a b), cn z := fun z hz => (cn_prodL cy h0 z hz).1
    rw [e] at h1 h2 hcn
    rw [zs_app] at h1
    have g1 := h3 l1 (fun z hz => hcn z (List.mem_append_left _ hz))
    have g2 := h3 l2 (fun z hz => hcn z (List.mem_append_right _ (List.mem_cons_of_mem _ hz)))
    rw [List.length_append, List.length_cons] at h2
    have h1 : zs l1 + (z1 c + zs l2) = z1 (.and a b) := h1
    omega
  | not a =>
    rw [List.mem_singleton.mp hc, (z_not a).2]
    have := z12 cy.1
    omega
  | _ => cases hc
theorem z1_rest {a b : Cond} (cy : cn (.and a b)) : z1 b < z1 (.and a b) := by
  rw [(z_and a b).2.1]
  have := z01 cy.1
  omega
/-- laysParts asks for what is laid; a shape of which parts must be laid ahead -/
theorem r_lacks {T U : List Cond} {P k x : Nat} {y : Cond} {W : Cond → Prop} (hA : am s T U P) (hU : uO U) (hW : clW U W) (hk : T[k]? = some y) (hx : x < 3) (hy : W y)
    (h0 : ∀ s' T', am s' T' U P → gz s s' T T' → rdy s' T' y x → K (some (-1)) s')
    (h1 : ∀ s' T' j c, am s' T' U P → gz s s' T T' → T'[j]? = some c → W c → z1 c < z1 y → s'.1 198 (3 * j + x) = -1 → K (some (nI j)) s') : tT (yY L xs) (d + 5) 171 0 [.ref 186, .int (nI k), .int (nI x), .null, .null] [] s K := by
  have hT := hA.1
  have hM := hT.1
  have hlen := am_len hA hU
  have cy := tb_cn hT (List.mem_of_getElem? hk)
  have hkl := (List.getElem?_eq_some_iff.mp hk).1
  obtain ⟨off, hN⟩ := hT.2.1
  obtain ⟨⟨n1, n2, n3, -, -, n6, -, n8⟩, n9⟩ := hN.2.2.2.2.2 k y hk
  have ck : (nI k).toNatClampNeg = k := nI_cl (by omega)
  have ink : inR (nI k) 1500 := inR_nI (by omega) (by decide)
  have hkd := kd_le y
  have hch := chl_nch y
  refine b_171_0 ⟨190, ⟨so_186, rm_186_5 hM⟩, 1500, ⟨sa_190, ink⟩, ?_⟩
  rw [ck, n1]
  by_cases h3 : 3 ≤ kd y
  · rw [if_pos (by rw [nI_lit 3, nJ_le (by omega) (by omega)]; exact h3)]
    rw [nch_3 h3] at n3 n9
    refine ⟨190, ⟨so_186, rm_186_5 hM⟩, 1500, ⟨sa_190, ink⟩, ?_⟩
    rw [n1]
    by_cases hs : kd y = 3
    · rw [if_neg (by rw [hs]; exact fun q => q rfl)]
      have loop : ∀ q i, q + i = (chl y).length → (∀ t c, t < i → (chl y)[t]? = some c → lin s T c x) → tT (yY L xs) (d + 5) 171 24 [.ref 186, .int (nI k), .int (nI x), .int (nI i), .null] [] s K := by
        intro q
        induction q with
        | zero =>
          intro i hi hl
          refine b_171_24 ⟨192, ⟨so_186, rm_186_7 hM⟩, 1500, ⟨sa_192, ink⟩, ?_⟩
          rw [ck, n3, if_pos (by rw [nJ_le (by omega) (by omega)]; omega)]
          refine h0 s T hA (gz_refl s T) ?_
          cases y with
          | or a b =>
            intro c hc
            obtain ⟨t, ht⟩ := List.getElem?_of_mem hc
            exact hl t c (by have := (List.getElem?_eq_some_iff.mp ht).1; omega) ht
          | count q => have := kd_atom q; omega
          | _ => cases hs
        | succ q ih =>
          intro i hi hl
          have hi' : i < (chl y).length := by omega
          have hc : (chl y)[i]? = some ((chl y)[i]'hi') := List.getElem?_eq_getElem hi'
          obtain ⟨j, j1, j2⟩ := n8 i _ hc
          have hjl := (List.getElem?_eq_some_iff.mp j1).1
          have hcm : (chl y)[i]'hi' ∈ chl y := List.getElem_mem _
          refine b_171_24 ⟨192, ⟨so_186, rm_186_7 hM⟩, 1500, ⟨sa_192, ink⟩, ?_⟩
          rw [ck, n3, if_neg (by rw [nJ_le (by omega) (by omega)]; omega)]
          refine ⟨198, ⟨so_186, rm_186_15 hM⟩, 195, ⟨so_186, rm_186_10 hM⟩, 191, ⟨so_186, rm_186_6 hM⟩, 1500, ⟨sa_191, ink⟩, 24000, ?_⟩
          rw [n2, nJ_add, nI_cl (show off k + i < 2147483648 by omega), j2, nI_lit 3, nJ_mul, nJ_add, nI_cl (show 3 * j + x < 2147483648 by omega)]
          refine ⟨⟨sa_195, inR_nI (by omega) (by decide)⟩, 4500, ⟨sa_198, inR_nI (by omega) (by decide)⟩, ?_⟩
          by_cases hm : s.1 198 (3 * j + x) = -1
          · rw [if_neg (fun q => q hm)]
            refine ⟨195, ⟨so_186, rm_186_10 hM⟩, 191, ⟨so_186, rm_186_6 hM⟩, 1500, ⟨sa_191, ink⟩, 24000, ?_⟩
            rw [n2, nJ_add, nI_cl (show off k + i < 2147483648 by omega), j2]
            exact ⟨⟨sa_195, inR_nI (by omega) (by decide)⟩, h1 s T j _ hA (gz_refl s T) j1 (hW.2.1 y _ hy hcm) (z1_chl cy hcm) hm⟩
          · rw [if_pos hm]
            have := ih (i + 1) (by omega) (fun t c ht hc' => by
              by_cases e : t = i
              · subst e
                rw [hc] at hc'
                cases hc'
                exact ⟨j, j1, hm⟩
              · exact hl t c (by omega) hc')
            rw [nI_succ] at this
            exact this
      exact loop _ 0 rfl (fun t c ht => absurd ht (Nat.not_lt_zero _))
    · rw [if_pos (show ¬ nI (kd y) = 3 from fun e => hs ((nJ_eq (by omega) (by decide)).mp e))]
      have h45 : kd y = 4 ∨ kd y = 5 := by omega
      obtain ⟨a, ha⟩ : ∃ a, (chl y)[0]? = some a := by
        cases y with
        | and a b => exact ⟨a, rfl⟩
        | not a => exact ⟨a, rfl⟩
        | count q => have := kd_atom q; omega
        | or a b => exact ⟨a, rfl⟩
        | _ => exact cy.elim
      have hlc := (List.getElem?_eq_some_iff.mp ha).1
      have ham := List.mem_of_getElem? ha
      obtain ⟨j, j1, j2⟩ := n8 0 _ ha
      rw [Nat.add_zero] at j2
      have hjl := (List.getElem?_eq_some_iff.mp j1).1
      have hja := (hN.2.2.2.2.2 j a j1).1
      refine ⟨195, ⟨so_186, rm_186_10 hM⟩, 191, ⟨so_186, rm_186_6 hM⟩, 1500, ⟨sa_191, ink⟩, 24000, ?_⟩
      rw [n2, nI_cl (show off k < 2147483648 by omega), j2, nI_lit 3, nJ_mul, nJ_add, nI_cl (show j < 2147483648 by omega)]
      refine ⟨⟨sa_195, inR_nI (by omega) (by decide)⟩, 198, ⟨so_186, rm_186_15 hM⟩, 4500, ⟨sa_198, inR_nI (by omega) (by decide)⟩, ?_⟩
      rw [nI_cl (show 3 * j + x < 2147483648 by omega)]
      by_cases hm : s.1 198 (3 * j + x) = -1
      · rw [if_neg (fun q => q hm)]
        exact h1 s T j a hA (gz_refl s T) j1 (hW.2.1 y a hy ham) (z1_chl cy ham) hm
      · rw [if_pos hm]
        refine ⟨190, ⟨so_186, rm_186_5 hM⟩, 1500, ⟨sa_190, ink⟩, ?_⟩
        rw [n1]
        cases y with
        | not a' =>
          cases ha
          rw [if_pos (show nI (kd (.not a)) = 5 from rfl)]
          exact h0 s T hA (gz_refl s T) ⟨j, j1, hm⟩
        | and a' b =>
          cases ha
          rw [if_neg (show ¬ nI (kd (.and a b)) = 5 from (by decide : ¬ nI 4 = 5))]
          refine ⟨196, ⟨so_186, rm_186_11 hM⟩, 1500, ⟨sa_196, inR_nI (by omega) (by decide)⟩, ?_⟩
          rw [hja.2.2.2.2.2.1]
          cases hf : full a with
          | false =>
            rw [if_neg (show ¬ ¬ bz false = 0 by decide)]
            exact h0 s T hA (gz_refl s T) ⟨⟨j, j1, hm⟩, fun e => by rw [hf] at e; cases e⟩
          | true =>
            rw [if_pos (show ¬ bz true = 0 by decide)]
            have cb : cn b := cy.2.2.2.2.1
            have hb0 : b ≠ S0 := cy.2.2.2.2.2.1
            have eP := pj_1l cb hb0
            have Wb := hW.2.2.1 a b hy
            have hWb := hW.1 b Wb
            refine ⟨so_186, r_behind (a := a) (b := b) (u := S1) (k := k) (j := 1) hT hlen.1 hlen.2 hk (tbA5 hT 1 (by decide)) (by rw [eP]; exact hWb.2.2.1) (fun s' T' i q1 q2 q3 q4 => ?_)⟩
            rw [eP] at q3 q4
            rw [rt_some]
            have hA' := am_ad hA (gl_gz q2) q1 q3 hWb.1
            have hil := (List.getElem?_eq_some_iff.mp q4).1
            have hlen' := am_len hA' hU
            refine b_171_138 ⟨198, ⟨so_186, rm_186_15 q1.1⟩, 4500, ?_⟩
            rw [nI_lit 3, nJ_mul, nJ_add, nI_cl (show 3 * i + x < 2147483648 by omega)]
            refine ⟨⟨sa_198, inR_nI (by omega) (by decide)⟩, ?_⟩
            by_cases hm2 : s'.1 198 (3 * i + x) = -1
            · rw [if_neg (fun q => q hm2)]
              exact h1 s' T' i b hA' q2 q4 Wb (z1_rest cy) hm2
            · rw [if_pos hm2]
              obtain ⟨e', he'⟩ := q2.2.2.2.1
              exact h0 s' T' hA' q2 ⟨⟨j, by rw [he']; exact app_at j1, by rw [q2.2.2.2.2.1 _ (by omega)]; exact hm⟩, fun _ => ⟨i, q4, hm2⟩⟩
        | count q => have := kd_atom q; omega
        | or a b => exact absurd rfl hs
        | _ => exact cy.elim
  · rw [if_neg (by rw [nI_lit 3, nJ_le (by omega) (by omega)]; exact h3)]
    refine h0 s T hA (gz_refl s T) ?_
    cases y with
    | or a b => exact absurd (show 3 ≤ 3 by decide) h3
    | and a b => exact absurd (show 3 ≤ 4 by decide) h3
    | not a => exact absurd (show 3 ≤ 5 by decide) h3
    | _ => trivial
end LA
