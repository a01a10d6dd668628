section SP
variable {L : Nat} {xs : Nat → Int32} {d : Nat} {s : sT} {K : Option Int32 → sT → Prop}
/-- all factors of a node behind the row -/
theorem r_kidsP {T : List Cond} {off : Nat → Nat} {p k r1 : Nat} {y : Cond} {cs : List Cond} {x2 x3 x4 : Int32} (hM : rM s.2) (hT : rN s.1 T off p) (hp : p ≤ 24000) (hl : T.length ≤ 1500) (hk : T[k]? = some y) (h3 : kd y = 4) (hlen : cs.length + (chl y).length < 400)
    (h : ∀ s1 js1, rwO s1.1 js1 → rwT T js1 (cs ++ chl y) → frR s s1 → tT (yY L xs) (d + 1) 159 107 [.ref 186, .ref r1, .int x2, .int x3, .int x4, .int (nI k), .int (nI (chl y).length)] [] s1 K) : ∀ q i (s1 : sT) (js1 : List Nat), q + i = (chl y).length → rwO s1.1 js1 → rwT T js1 (cs ++ (chl y).take i) → frR s s1 → tT (yY L xs) (d + 1) 159 48 [.ref 186, .ref r1, .int x2, .int x3, .int x4, .int (nI k), .int (nI i)] [] s1 K := by
  have hkl := (List.getElem?_eq_some_iff.mp hk).1
  obtain ⟨⟨n1, n2, n3, -, -, -, -, n8⟩, n9⟩ := hT.2.2.2.2.2 k y hk
  rw [nch_3 (by omega)] at n3 n9
  intro q
  induction q with
  | zero =>
    intro i s1 js1 hi hr ht hf
    have e : i = (chl y).length := by omega
    subst e
    rw [List.take_length] at ht
    refine b_159_48 ⟨192, ⟨so_186, rm_186_7 (by rw [hf.1]; exact hM)⟩, 1500, ?_⟩
    rw [nI_cl (show k < 2147483648 by omega), hf.2.1 192 (by decide) (by decide), n3]
    refine ⟨⟨sa_192, inR_nI (by omega) (by decide)⟩, ?_⟩
    rw [if_pos (by rw [nJ_le (by omega) (by omega)]; omega)]
    exact h s1 js1 hr ht hf
  | succ q ih =>
    intro i s1 js1 hi hr ht hf
    have hi' : i < (chl y).length := by omega
    have hc : (chl y)[i]? = some ((chl y)[i]'hi') := List.getElem?_eq_getElem hi'
    obtain ⟨j, hj1, hj2⟩ := n8 i _ hc
    have hjl := (List.getElem?_eq_some_iff.mp hj1).1
    have hM1 : rM s1.2 := by rw [hf.1]; exact hM
    have hjs : js1.length ≤ cs.length + i := by
      rw [ht.1, List.length_append, List.length_take]
      omega
    refine b_159_48 ⟨192, ⟨so_186, rm_186_7 hM1⟩, 1500, ?_⟩
    rw [nI_cl (show k < 2147483648 by omega), hf.2.1 192 (by decide) (by decide), n3]
    refine ⟨⟨sa_192, inR_nI (by omega) (by decide)⟩, ?_⟩
    rw [if_neg (by rw [nJ_le (by omega) (by omega)]; omega)]
    refine ⟨195, ⟨so_186, rm_186_10 hM1⟩, 191, ⟨so_186, rm_186_6 hM1⟩, 1500, ?_⟩
    rw [hf.2.1 191 (by decide) (by decide), n2, nJ_add, nI_cl (show off k + i < 2147483648 by omega), hf.2.1 195 (by decide) (by decide), hj2]
    refine ⟨⟨sa_191, inR_nI (by omega) (by decide)⟩, 24000, ⟨sa_195, inR_nI (by omega) (by decide)⟩, so_186, ?_⟩
    refine r_note0 hM1 hr ht hj1 (by omega) (fun s2 js2 hr2 ht2 hf2 => ?_)
    rw [rt_none]
    refine b_159_80 ?_
    rw [List.append_assoc, ← List.take_succ_eq_append_getElem hi'] at ht2
    have := ih (i + 1) s2 js2 (by omega) hr2 ht2 (frR_trans hf hf2)
    rw [nI_succ] at this
    exact this
theorem r_prod {T l : List Cond} {r1 a m : Nat} {js0 : List Nat} (hT : tb s T) (hl : T.length < 1500) (hp : pn T + 150 ≤ 24000) (hA : isA (yY L xs) r1 0 m) (hm : a + l.length ≤ m) (hm2 : m < 100000) (hr1 : 200 < r1) (hjs : rwT T js0 l) (hv : ∀ i, i < l.length → s.1 r1 (a + i) = nI (js0.getD i 0)) (hf : (l.flatMap prodL).length < 400) (hz : z1 (sProd l) ≤ 150)
    (h : ∀ s' T' j, tb s' T' → gw s s' T T' → ad T (sProd l) T' → T'[j]? = some (sProd l) → K (some (nI j)) s') : tT (yY L xs) (d + 3) 159 0 [.ref 186, .ref r1, .int (nI a), .int (nI l.length), .null, .null, .null] [] s K := by
  have hlT := rwT_cn hT hjs
  have cl : ∀ x ∈ l, cn x := fun x hx => tb_cn hT (hlT x hx)
  have cS := cn_sProd cl
  have loop : ∀ q k (s1 : sT) (js : List Nat) (u5 u6 : Value), q + k = l.length → S0 ∉ l.take k → rwO s1.1 js → rwT T js ((l.take k).flatMap prodL) → frR s s1 → tT (yY L xs) (d + 3) 159 8 [.ref 186, .ref r1, .int (nI a), .int (nI l.length), .int (nI k), u5, u6] [] s1 K := by
    intro q
    induction q with
    | zero =>
      intro k s1 js u5 u6 hk hn0 hr ht hfr
      have e : k = l.length := by omega
      subst e
      rw [List.take_length] at ht hn0
      have hT1 := frR_tb hfr hT
      have eP : sProd l = mkP (l.flatMap prodL) := by unfold sProd; rw [if_neg hn0]
      have cP := prodL_mkP (l := l.flatMap prodL) (fun y hy => by
        obtain ⟨x, hx, hy⟩ := List.mem_flatMap.mp hy
        exact cn_prodL (cl x hx) (fun e => hn0 (e ▸ hx)) y hy)
      rw [← eP] at cP
      rw [← cP.1] at ht hf
      refine b_159_8 ?_
      rw [if_pos (Int32.le_refl _)]
      refine ⟨so_186, ?_⟩
      rw [hr.1, ht.1]
      by_cases h0 : (prodL (sProd l)).length = 0
      · rw [if_neg (by rw [h0]; exact fun q => q rfl)]
        have e0 : sProd l = S1 := by
          rw [← mkP_prodL cS, List.eq_nil_of_length_eq_zero h0]; rfl
        refine b_159_150 (h s1 T 1 hT1 (frR_gw hfr) (Or.inl ⟨rfl, ?_⟩) ?_)
        · rw [e0]; exact List.mem_of_getElem? (tbA5 hT 1 (by decide))
        · rw [e0]; exact tbA5 hT 1 (by decide)
      · rw [if_pos (show ¬ nI (prodL (sProd l)).length = 0 from fun e => h0 ((nJ_eq (by omega) (by decide)).mp e))]
        refine ⟨so_186, ?_⟩
        by_cases h1 : (prodL (sProd l)).length = 1
        · rw [if_neg (by rw [h1]; exact fun q => q rfl)]
          refine ⟨200, ⟨so_186, rm_186_18 hT1.1⟩, 400, ⟨sa_200, inR_nI (k := 0) (by decide) (by decide)⟩, ?_⟩
          obtain ⟨c, hc⟩ := List.length_eq_one_iff.mp h1
          have e1 : sProd l = c := by rw [← mkP_prodL cS, hc]; rfl
          have hj : T[js.getD 0 0]? = some (sProd l) := by
            rw [ht.2 0 (by rw [ht.1]; omega), hc, e1]; rfl
          have e2 : s1.1 200 (0 : Int32).toNatClampNeg = nI (js.getD 0 0) := hr.2 0 (by rw [ht.1]; omega)
          rw [e2]
          exact b_159_150 (h s1 T _ hT1 (frR_gw hfr) (Or.inl ⟨rfl, List.mem_of_getElem? hj⟩) hj)
        · rw [if_pos (show ¬ nI (prodL (sProd l)).length = 1 from fun e => h1 ((nJ_eq (by omega) (by decide)).mp e))]
          refine ⟨so_186, so_186, ?_⟩
          have h3 : kd (sProd l) = 4 := by
            have := mkP_prodL cS
            cases e : prodL (sProd l) with
            | nil => rw [e] at h0; exact absurd rfl h0
            | cons c1 t => cases t with
              | nil => rw [e] at h1; exact absurd rfl h1
              | cons c2 t => rw [e] at this; rw [← this]; rfl
          have hkk := r_keptB (K := fun r s2 => tT (yY L xs) (d + 3) 159 150 [.ref 186, .ref r1, .int (nI a), .int (nI l.length), .int (nI l.length), u5, u6] ((r.map Value.int).toList ++ []) s2 K) (d := d) (L := L) (xs := xs) hT1 hl hp cS (by omega) hz hr.2 (by rw [← prodL_4 h3]; exact ht) (fun s' T' j q1 q2 q3 q4 => by rw [rt_some]; exact b_159_150 (h s' T' j q1 (gw_trans (frR_gw hfr) q2) q3 q4))
          rw [h3, ← prodL_4 h3] at hkk
          exact hkk
    | succ q ih =>
      intro k s1 js u5 u6 hk hn0 hr ht hfr
      have hkl : k < l.length := by omega
      have hT1 := frR_tb hfr hT
      have hM1 := hT1.1
      have hjk := rwT_at hjs hkl
      have hjl := (List.getElem?_eq_some_iff.mp hjk).1
      obtain ⟨-, ⟨off, hN⟩, -⟩ := hT1
      obtain ⟨hnd, -⟩ := hN.2.2.2.2.2 _ _ hjk
      have hkd := kd_le l[k]
      have ck := cl l[k] (List.getElem_mem hkl)
      have hb : ((l.take k).flatMap prodL).length + (prodL l[k]).length < 400 := by
        have q2 := take_flat_le (f := prodL) (l := l) (k + 1)
        rw [take_flat hkl, List.length_append] at q2
        omega
      refine b_159_8 ?_
      rw [if_neg (by rw [nJ_le (by omega) (by omega)]; omega), nJ_add, nI_cl (show a + k < 2147483648 by omega), hfr.2.1 r1 (by omega) (by omega), hv k hkl]
      refine ⟨m, ⟨hA, inR_nI (by omega) (by omega)⟩, 190, ⟨so_186, rm_186_5 hM1⟩, 1500, ⟨sa_190, inR_nI (by omega) (by decide)⟩, ?_⟩
      rw [nI_cl (show js0.getD k 0 < 2147483648 by omega), hnd.1]
      by_cases h0 : kd l[k] = 0
      · rw [if_neg (by rw [h0]; exact fun q => q rfl)]
        have e0 : sProd l = S0 := by
          unfold sProd
          rw [if_pos]
          rw [← (kd_0 ck).mp h0]
          exact List.getElem_mem hkl
        refine h s1 T 0 (frR_tb hfr hT) (frR_gw hfr) (Or.inl ⟨rfl, ?_⟩) ?_
        · rw [e0]; exact List.mem_of_getElem? (tbA5 hT 0 (by decide))
        · rw [e0]; exact tbA5 hT 0 (by decide)
      · rw [if_pos (show ¬ nI (kd l[k]) = 0 from fun e => h0 ((nJ_eq (by omega) (by decide)).mp e))]
        have nxt : ∀ (s2 : sT) (js2 : List Nat) (w5 w6 : Value), rwO s2.1 js2 → rwT T js2 ((l.take k).flatMap prodL ++ prodL l[k]) → frR s1 s2 → tT (yY L xs) (d + 3) 159 8 [.ref 186, .ref r1, .int (nI a), .int (nI l.length), .int (nI k + 1), w5, w6] [] s2 K := by
          intro s2 js2 w5 w6 g1 g2 g3
          have := ih (k + 1) s2 js2 w5 w6 (by omega) (by
            rw [List.take_succ_eq_append_getElem hkl]
            intro hm
            rcases List.mem_append.mp hm with q | q
            · exact hn0 q
            · exact h0 ((kd_0 ck).mpr (List.mem_singleton.mp q).symm)) g1 (by rw [take_flat hkl]; exact g2) (frR_trans hfr g3)
          rw [nI_succ] at this
          exact this
        refine ⟨190, ⟨so_186, rm_186_5 hM1⟩, 1500, ⟨sa_190, inR_nI (by omega) (by decide)⟩, ?_⟩
        rw [hnd.1]
        by_cases h3 : kd l[k] = 4
        · rw [if_neg (by rw [h3]; exact fun q => q rfl)]
          have := prodL_4 h3
          rw [this] at hb nxt
          refine r_kidsP (s := s1) (d := d + 2) (cs := (l.take k).flatMap prodL) hM1 hN (by omega) (by omega) hjk h3 hb (fun s2 js2 g1 g2 g3 => b_159_107 (nxt s2 js2 _ _ g1 g2 g3)) _ 0 s1 js (Nat.add_zero _) hr (by rw [List.take_zero, List.append_nil]; exact ht) (frR_refl s1)
        · rw [if_pos (show ¬ nI (kd l[k]) = 4 from fun e => h3 ((nJ_eq (by omega) (by decide)).mp e))]
          refine ⟨190, ⟨so_186, rm_186_5 hM1⟩, 1500, ⟨sa_190, inR_nI (by omega) (by decide)⟩, ?_⟩
          rw [hnd.1]
          by_cases h1 : kd l[k] = 1
          · rw [if_pos (by rw [h1]; rfl)]
            have e0 : prodL l[k] = [] := by rw [(kd_1 ck).mp h1]; exact prodL_S1
            rw [e0, List.append_nil] at nxt
            exact b_159_107 (nxt s1 js _ _ hr ht (frR_refl s1))
          · rw [if_neg (show ¬ nI (kd l[k]) = 1 from fun e => h1 ((nJ_eq (by omega) (by decide)).mp e))]
            have e1 := prodL_n4 ck h3 h1
            rw [e1] at nxt hb
            rw [List.length_singleton] at hb
            refine ⟨so_186, r_note0 hM1 hr ht hjk (by rw [ht.1]; omega) (fun s2 js2 g1 g2 g3 => ?_)⟩
            rw [rt_none]
            exact b_159_107 (nxt s2 js2 _ _ g1 g2 g3)
  refine b_159_0 ⟨so_186, loop l.length 0 _ [] .null .null rfl (by rw [List.take_zero]; exact List.not_mem_nil) ⟨?_, fun i hi => absurd hi (Nat.not_lt_zero _)⟩ (rwT_nil T) frR_rows0⟩
  rw [pV_1, if_pos ⟨rfl, rfl⟩]; rfl
/-- the table grows, and the pair may change -/
def gz (s s' : sT) (T T' : List Cond) : Prop := s'.2 = s.2 ∧ (∀ z, z ≠ 186 → (z < 190 ∨ 196 < z) → z ≠ 198 → z ≠ 200 → z ≠ 201 → s'.1 z = s.1 z) ∧ (∀ z, z ≠ 12 → z ≠ 13 → z ≠ 19 → s'.1 186 z = s.1 186 z) ∧ (∃ e, T' = T ++ e) ∧ (∀ t, t < 3 * T.length → s'.1 198 t = s.1 198 t) ∧ ∀ t, 3 * T.length ≤ t → t < 3 * T'.length → s'.1 198 t = -1
theorem gz_gw {s' : sT} {T T' : List Cond} (h : gw s s' T T') : gz s s' T T' := ⟨h.1, fun z a b c e _ => h.2.1 z a b c e, h.2.2.1, h.2.2.2.1, h.2.2.2.2.1, h.2.2.2.2.2⟩
theorem gz_refl (s : sT) (T : List Cond) : gz s s T T := gz_gw (gw_refl s T)
theorem gz_trans {s1 s2 : sT} {T T1 T2 : List Cond} (h1 : gz s s1 T T1) (h2 : gz s1 s2 T1 T2) : gz s s2 T T2 := by
  obtain ⟨a1, a2, a3, ⟨e1, a4⟩, a5, a6⟩ := h1
  obtain ⟨b1, b2, b3, ⟨e2, b4⟩, b5, b6⟩ := h2
  have hl : T.length ≤ T1.length := by rw [a4, List.length_append]; omega
  refine ⟨b1.trans a1, fun z q1 q2 q3 q4 q5 => (b2 z q1 q2 q3 q4 q5).trans (a2 z q1 q2 q3 q4 q5), fun z q1 q2 q3 => (b3 z q1 q2 q3).trans (a3 z q1 q2 q3), ⟨e1 ++ e2, by rw [b4, a4, List.append_assoc]⟩, fun t ht => (b5 t (by omega)).trans (a5 t ht), fun t q1 q2 => ?_⟩
  by_cases h : t < 3 * T1.length
  · rw [b5 t h]; exact a6 t q1 h
  · exact b6 t (by omega) q2
/-- only the pair changes -/
def frP (s s' : sT) : Prop := s'.2 = s.2 ∧ ∀ z, z ≠ 201 → s'.1 z = s.1 z
theorem frP_put {s1 : sT} {i : Nat} {x : Int32} (h : frP s s1) : frP s (pV s1 201 i x) := ⟨h.1, fun z hz => by rw [← h.2 z hz]; funext t; rw [pV_1, if_neg (fun q => hz q.1)]⟩
theorem frP_refl (s : sT) : frP s s := ⟨rfl, fun _ _ => rfl⟩
theorem gz_frP {s' : sT} {T : List Cond} (h : frP s s') : gz s s' T T := ⟨h.1, fun z _ _ _ _ q => h.2 z q, fun z _ _ _ => by rw [h.2 186 (by decide)], ⟨[], (List.append_nil _).symm⟩, fun t _ => by rw [h.2 198 (by decide)], fun t h1 h2 => by omega⟩
theorem tb_frP {s' : sT} {T : List Cond} (hf : frP s s') (h : tb s T) : tb s' T := by
  obtain ⟨hM, ⟨off, hN⟩, hs⟩ := h
  exact ⟨by rw [hf.1]; exact hM, ⟨off, rN_off hN (by rw [hf.2 186 (by decide)]) (by rw [hf.2 186 (by decide)]) (fun z q1 q2 => hf.2 z (by omega))⟩, hs⟩
theorem prodL_flat {b : Cond} (cb : cn b) (hb : b ≠ S0) : (prodL b).flatMap prodL = prodL b := by
  have go : ∀ l : List Cond, (∀ y ∈ l, prodL y = [y]) → l.flatMap prodL = l := by
    intro l
    induction l with
    | nil => intro _; rfl
    | cons y l ih => intro q; rw [List.flatMap_cons, q y List.mem_cons_self, ih (fun z hz => q z (List.mem_cons_of_mem _ hz))]; rfl
  exact go _ (fun y hy => prodL_one (cn_prodL cb hb y hy).2.1 (cn_prodL cb hb y hy).2.2.2)
theorem sProd_cons {u b : Cond} (cb : cn b) (hb : b ≠ S0) : sProd (u :: prodL b) = pj u b := by
  unfold pj sProd
  have h2 : S0 ∉ prodL b := fun q => (cn_prodL cb hb _ q).2.2.1 rfl
  by_cases hu : u = S0
  · rw [if_pos (by rw [hu]; exact List.mem_cons_self), if_pos (by rw [hu]; exact List.mem_cons_self)]
  · rw [if_neg (fun q => (List.mem_cons.mp q).elim (fun e => hu e.symm) h2), if_neg (fun q => (List.mem_cons.mp q).elim (fun e => hu e.symm) (fun e => hb (List.mem_singleton.mp e).symm))]
    rw [List.flatMap_cons, List.flatMap_cons, List.flatMap_cons, List.flatMap_nil, List.append_nil, prodL_flat cb hb]
/-- a shape with the others of a product behind it -/
theorem r_behind {T : List Cond} {a b u : Cond} {k j : Nat} (hT : tb s T) (hl : T.length < 1500) (hp : pn T + 150 ≤ 24000) (hk : T[k]? = some (.and a b)) (hj : T[j]? = some u) (hz : z1 (pj u b) ≤ 150)
    (h : ∀ s' T' i, tb s' T' → gz s s' T T' → ad T (pj u b) T' → T'[i]? = some (pj u b) → K (some (nI i)) s') : tT (yY L xs) (d + 4) 161 0 [.ref 186, .int (nI j), .int (nI k), .int 1, .null, .null] [] s K := by
  have hkl := (List.getElem?_eq_some_iff.mp hk).1
  have hjl := (List.getElem?_eq_some_iff.mp hj).1
  have cab := tb_cn hT (List.mem_of_getElem? hk)
  have cu := tb_cn hT (List.mem_of_getElem? hj)
  have cb : cn b := cab.2.2.2.2.1
  have hb0 : b ≠ S0 := cab.2.2.2.2.2.1
  have eP := sProd_cons (u := u) cb hb0
  have hM := hT.1
  have hsz : (prodL b).length ≤ 150 := by
    have h1 := hT.2.2 _ (List.mem_of_getElem? hk)
    have h2 := sh_z cb
    have h3 := z01 cb
    rw [(z_and a b).2.1] at h1
    omega
  have hsu : (prodL u).length ≤ 150 := by
    have h1 := hT.2.2 _ (List.mem_of_getElem? hj)
    have h2 := sh_z cu
    have h3 := z01 cu
    omega
  obtain ⟨off, hN⟩ := hT.2.1
  obtain ⟨⟨n1, n2, n3, -, -, -, -, n8⟩, n9⟩ := hN.2.2.2.2.2 k _ hk
  have en : nch (.and a b) = (prodL b).length + 1 := rfl
  rw [en] at n3 n9
  -- the numbers of the factors behind the first
  obtain ⟨jf, hjf⟩ : ∃ jf : Nat → Nat, ∀ i, i < (prodL b).length → T[jf i]? = (prodL b)[i]? ∧ s.1 195 (off k + 1 + i) = nI (jf i) := by
    have : ∀ i, ∃ q, i < (prodL b).length → T[q]? = (prodL b)[i]? ∧ s.1 195 (off k + 1 + i) = nI q := by
      intro i
      by_cases hi : i < (prodL b).length
      · have hc : (chl (.and a b))[i + 1]? = some ((prodL b)[i]'hi) := by
          show (a :: prodL b)[i + 1]? = _
          rw [List.getElem?_cons_succ, List.getElem?_eq_getElem hi]
        obtain ⟨q, g1, g2⟩ := n8 (i + 1) _ hc
        refine ⟨q, fun _ => ⟨by rw [g1, List.getElem?_eq_getElem hi], ?_⟩⟩
        rw [show off k + 1 + i = off k + (i + 1) by omega]; exact g2
      · exact ⟨0, fun h => absurd h hi⟩
    exact ⟨fun i => (this i).choose, fun i => (this i).choose_spec⟩
  have fin : ∀ s1 : sT, frP s s1 → s1.1 201 0 = nI j → (∀ i, i < (prodL b).length → s1.1 201 (1 + i) = nI (jf i)) → tT (yY L xs) (d + 3) 159 0 [.ref 186, .ref 201, .int 0, .int (nI ((prodL b).length + 1)), .null, .null, .null] [] s1 (fun r s2 => tT (yY L xs) (d + 4) 161 71 [.ref 186, .int (nI j), .int (nI k), .int 1, .int (nI (prodL b).length), .int (nI (prodL b).length)] ((r.map Value.int).toList ++ []) s2 K) := by
    intro s1 g1 g3 g4
    have g2 := tb_frP g1 hT
    refine r_prod (a := 0) (l := u :: prodL b) (js0 := j :: (List.range (prodL b).length).map jf) (m := 400) g2 hl hp sa_201 (by rw [List.length_cons]; omega) (by decide) (by decide) ⟨?_, fun i hi => ?_⟩ (fun i hi => ?_) ?_ (by rw [eP]; exact hz) (fun s' T' i q1 q2 q3 q4 => ?_)
    · simp
    · cases i with
      | zero => exact hj
      | succ i =>
        have hi' : i < (prodL b).length := by simp at hi; exact hi
        rw [List.getD_cons_succ, List.getElem?_cons_succ, ← (hjf i hi').1]
        rw [List.getD_eq_getElem?_getD, List.getElem?_map, List.getElem?_range hi']
        rfl
    · cases i with
      | zero => exact g3
      | succ i =>
        have hi' : i < (prodL b).length := by simp at hi; exact hi
        rw [List.getD_cons_succ, List.getD_eq_getElem?_getD, List.getElem?_map, List.getElem?_range hi', show 0 + (i + 1) = 1 + i by omega, g4 i hi']
        rfl
    · rw [List.flatMap_cons, List.length_append, prodL_flat cb hb0]; omega
    · rw [eP] at q3 q4
      rw [rt_some]
      exact b_161_71 (h s' T' i q1 (gz_trans (gz_frP g1) (gz_gw q2)) q3 q4)
  have loop : ∀ q i (s1 : sT), q + i = (prodL b).length → frP s s1 → s1.1 201 0 = nI j → (∀ t, t < i → s1.1 201 (1 + t) = nI (jf t)) → tT (yY L xs) (d + 4) 161 20 [.ref 186, .int (nI j), .int (nI k), .int 1, .int (nI (prodL b).length), .int (nI i)] [] s1 K := by
    intro q
    induction q with
    | zero =>
      intro i s1 hi g1 g3 g4
      have g2 := tb_frP g1 hT
      have e : i = (prodL b).length := by omega
      subst e
      refine b_161_20 ?_
      rw [if_pos (Int32.le_refl _)]
      refine ⟨201, ⟨so_186, rm_186_20 g2.1⟩, so_186, ?_⟩
      rw [nI_lit 1, nJ_add]
      exact fin s1 g1 g3 g4
    | succ q ih =>
      intro i s1 hi g1 g3 g4
      have g2 := tb_frP g1 hT
      refine b_161_20 ?_
      rw [if_neg (by rw [nJ_le (by omega) (by omega)]; omega)]
      have c191 : s1.1 191 k = nI (off k) := by rw [g1.2 191 (by decide)]; exact n2
      have c195 : s1.1 195 (off k + 1 + i) = nI (jf i) := by rw [g1.2 195 (by decide)]; exact (hjf i (by omega)).2
      refine ⟨201, ⟨so_186, rm_186_20 g2.1⟩, 195, ⟨so_186, rm_186_10 g2.1⟩, 191, ⟨so_186, rm_186_6 g2.1⟩, 1500, ?_⟩
      rw [nI_cl (show k < 2147483648 by omega), c191, nI_lit 1, nJ_add, nJ_add, nJ_add, nI_cl (show off k + 1 + i < 2147483648 by omega), c195, nI_cl (show 1 + i < 2147483648 by omega)]
      refine ⟨⟨sa_191, inR_nI (by omega) (by decide)⟩, 24000, ⟨sa_195, inR_nI (by omega) (by decide)⟩, 400, ⟨sa_201, inR_nI (by omega) (by decide)⟩, ?_⟩
      have := ih (i + 1) (pV s1 201 (1 + i) (nI (jf i))) (by omega) (frP_put g1) (by rw [pV_1, if_neg (by omega)]; exact g3) (fun t ht => by
        rw [pV_1]
        by_cases e : t = i
        · rw [if_pos ⟨rfl, by omega⟩, e]
        · rw [if_neg (by omega)]; exact g4 t (by omega))
      rw [nI_succ] at this
      exact this
  refine b_161_0 ⟨201, ⟨so_186, rm_186_20 hM⟩, 400, ⟨sa_201, inR_nI (k := 0) (by decide) (by decide)⟩, 192, ⟨so_186, rm_186_7 hM⟩, 1500, ⟨sa_192, inR_nI (by omega) (by decide)⟩, ?_⟩
  have e1 : (pV s 201 (0 : Int32).toNatClampNeg (nI j)).1 192 (nI k).toNatClampNeg = nI ((prodL b).length + 1) := by
    rw [pV_1, if_neg (by omega), nI_cl (by omega)]; exact n3
  rw [e1, nI_lit 1, nJ_sub (by omega), Nat.add_sub_cancel]
  exact loop _ 0 _ rfl (frP_put (frP_refl s)) (by rw [pV_1, if_pos ⟨rfl, rfl⟩]) (fun t ht => absurd ht (Nat.not_lt_zero _))
/-- a shape with a star behind it -/
theorem r_withStar {T : List Cond} {a u : Cond} {k j : Nat} (hT : tb s T) (hl : T.length < 1500) (hp : pn T + 150 ≤ 24000) (hk : T[k]? = some (.not a)) (hj : T[j]? = some u) (hz : z1 (pj u (.not a)) ≤ 150)
    (h : ∀ s' T' i, tb s' T' → gz s s' T T' → ad T (pj u (.not a)) T' → T'[i]? = some (pj u (.not a)) → K (some (nI i)) s') : tT (yY L xs) (d + 4) 175 0 [.ref 186, .int (nI j), .int (nI k)] [] s K := by
  have cu := tb_cn hT (List.mem_of_getElem? hj)
  have hM := hT.1
  have hsu : (prodL u).length ≤ 150 := by
    have h1 := hT.2.2 _ (List.mem_of_getElem? hj)
    have h2 := sh_z cu
    have h3 := z01 cu
    omega
  have g1 : frP s (pV (pV s 201 0 (nI j)) 201 1 (nI k)) := frP_put (frP_put (frP_refl s))
  refine b_175_0 ⟨201, ⟨so_186, rm_186_20 hM⟩, 400, ⟨sa_201, inR_nI (k := 0) (by decide) (by decide)⟩, 201, ⟨so_186, rm_186_20 hM⟩, 400, ⟨sa_201, inR_nI (k := 1) (by decide) (by decide)⟩, 201, ⟨so_186, rm_186_20 hM⟩, so_186, ?_⟩
  refine r_prod (a := 0) (l := [u, .not a]) (js0 := [j, k]) (m := 400) (tb_frP g1 hT) hl hp sa_201 (show 0 + 2 ≤ 400 by decide) (by decide) (by decide) ⟨rfl, fun i hi => ?_⟩ (fun i hi => ?_) ?_ hz (fun s' T' i q1 q2 q3 q4 => ?_)
  · rcases (show i = 0 ∨ i = 1 by have : i < 2 := hi; omega) with rfl | rfl
    · exact hj
    · exact hk
  · rcases (show i = 0 ∨ i = 1 by have : i < 2 := hi; omega) with rfl | rfl
    · rw [pV_1, if_neg (by decide), pV_1, if_pos ⟨rfl, rfl⟩]; rfl
    · rw [pV_1, if_pos ⟨rfl, rfl⟩]; rfl
  · rw [List.flatMap_cons, List.flatMap_cons, List.flatMap_nil, List.append_nil, List.length_append]
    have : (prodL (.not a)).length = 1 := rfl
    omega
  · rw [rt_some]
    exact b_175_24 (h s' T' i q1 (gz_trans (gz_frP g1) (gz_gw q2)) q3 q4)
end SP
