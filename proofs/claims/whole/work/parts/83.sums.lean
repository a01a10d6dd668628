/-! SUMS AND PRODUCTS OF THE REFERENCE -/
section SU
variable {L : Nat} {xs : Nat → Int32} {d : Nat} {s : sT} {K : Option Int32 → sT → Prop}
/-- the table holds T -/
def tb (s : sT) (T : List Cond) : Prop := rM s.2 ∧ (∃ off, rN s.1 T off (pn T)) ∧ ∀ y ∈ T, z1 y ≤ 150
theorem tb_cn {T : List Cond} {y : Cond} (h : tb s T) (hy : y ∈ T) : cn y := by
  obtain ⟨-, ⟨off, hN⟩, -⟩ := h
  exact hN.2.2.2.1 y hy
theorem tb_nd {T : List Cond} (h : tb s T) : T.Nodup := by
  obtain ⟨-, ⟨off, hN⟩, -⟩ := h
  exact hN.2.2.1
theorem tbA5 {T : List Cond} (h : tb s T) : ∀ k, k < 5 → T[k]? = some (.count k) := by
  obtain ⟨-, ⟨off, hN⟩, -⟩ := h
  exact hN.2.2.2.2.1
theorem frR_rN {s' : sT} {T : List Cond} {off : Nat → Nat} {p : Nat} (hf : frR s s') (h : rN s.1 T off p) : rN s'.1 T off p := rN_off h (hf.2.2 12 (by decide)) (hf.2.2 13 (by decide)) (fun z q1 q2 => hf.2.1 z (by omega) (by omega))
theorem frR_tb {s' : sT} {T : List Cond} (hf : frR s s') (h : tb s T) : tb s' T := by
  obtain ⟨hM, ⟨off, hN⟩, hs⟩ := h
  exact ⟨by rw [hf.1]; exact hM, ⟨off, frR_rN hf hN⟩, hs⟩
theorem frR_gw {s' : sT} {T : List Cond} (hf : frR s s') : gw s s' T T := ⟨hf.1, fun z h1 _ _ h2 => hf.2.1 z h1 h2, fun z _ _ h => hf.2.2 z h, ⟨[], (List.append_nil _).symm⟩, fun t _ => by rw [hf.2.1 198 (by decide) (by decide)], fun t h1 h2 => by omega⟩
theorem frR_rows0 : frR s (pV s 186 19 0) := ⟨rfl, fun z h1 _ => by funext t; rw [pV_1, if_neg (fun q => h1 q.1)], fun z hz => by rw [pV_1, if_neg (fun q => hz q.2)]⟩
theorem r_keptB {T : List Cond} {y : Cond} {js : List Nat} (hT : tb s T) (hl : T.length < 1500) (hp : pn T + 150 ≤ 24000) (cy : cn y) (h3 : 3 ≤ kd y) (hzy : z1 y ≤ 150) (hrow : ∀ i, i < js.length → s.1 200 i = nI (js.getD i 0)) (hjs : rwT T js (chl y)) (h : ∀ s' T' j, tb s' T' → gw s s' T T' → ad T y T' → T'[j]? = some y → K (some (nI j)) s') : tT (yY L xs) (d + 2) 156 0 [.ref 186, .int (nI (kd y)), .int (nI (chl y).length), .null, .null, .null] [] s K := by
  obtain ⟨hM, ⟨off, hN⟩, hsm⟩ := hT
  have hc := chl_z cy
  have h01 := z01 cy
  have hch : ∀ z ∈ chl y, shN z ≤ 150 ∧ ns z ≤ 150 := by
    intro z hz
    obtain ⟨i, hi⟩ := List.getElem?_of_mem hz
    have hil := (List.getElem?_eq_some_iff.mp hi).1
    have := hjs.2 i (by rw [hjs.1]; exact hil)
    rw [hi] at this
    have hm := List.mem_of_getElem? this
    have h1 := hsm z hm
    have h2 := sh_z (hN.2.2.2.1 z hm)
    have h3 := z01 (hN.2.2.2.1 z hm)
    exact ⟨by omega, by omega⟩
  refine r_kept (T := T) (off := off) (p := pn T) (y := y) (js := js) hM hN (by omega) hl cy h3 (by omega) hrow hjs.1 hjs.2 (fun i hi => ?_) (fun z hz => ?_) (fun k hk => ?_) (fun hy s' r1 r2 => ?_)
  · have := ac_le (how := kd y) hch i
    exact ⟨by omega, by omega⟩
  · have := hch z hz
    exact ⟨by omega, by omega, (chl_n0 cy z hz).1⟩
  · exact h s T k ⟨hM, ⟨off, hN⟩, hsm⟩ (gw_refl s T) (Or.inl ⟨rfl, List.mem_of_getElem? hk⟩) hk
  · have e : pn (T ++ [y]) = pn T + (chl y).length := by
      rw [pn_app]
      show pn T + (nch y + 0) = _
      rw [nch_3 h3]; rfl
    refine h s' (T ++ [y]) T.length ⟨by rw [r2.1]; exact hM, ⟨_, by rw [e]; exact r1⟩, fun z hz => ?_⟩ (gw_frN r2) (Or.inr ⟨rfl, hy⟩) (by rw [List.getElem?_append_right (Nat.le_refl _), Nat.sub_self]; rfl)
    rcases List.mem_append.mp hz with q | q
    · exact hsm z q
    · rw [List.mem_singleton.mp q]; exact hzy
theorem take_flat {f : Cond → List Cond} {l : List Cond} {k : Nat} (hk : k < l.length) : (l.take (k + 1)).flatMap f = (l.take k).flatMap f ++ f (l[k]'hk) := by
  rw [List.take_succ_eq_append_getElem hk, List.flatMap_append, List.flatMap_cons, List.flatMap_nil, List.append_nil]
theorem take_flat_le {f : Cond → List Cond} {l : List Cond} (k : Nat) : ((l.take k).flatMap f).length ≤ (l.flatMap f).length := by
  have e : l.flatMap f = (l.take k).flatMap f ++ (l.drop k).flatMap f := by rw [← List.flatMap_append, List.take_append_drop]
  rw [e, List.length_append]; omega
theorem rwT_at {T : List Cond} {js : List Nat} {cs : List Cond} (h : rwT T js cs) {k : Nat} (hk : k < cs.length) : T[js.getD k 0]? = some (cs[k]'hk) := by
  rw [h.2 k (by rw [h.1]; exact hk), List.getElem?_eq_getElem hk]
theorem rwT_cn {T : List Cond} {js : List Nat} {cs : List Cond} (hT : tb s T) (h : rwT T js cs) : ∀ x ∈ cs, x ∈ T := by
  intro x hx
  obtain ⟨i, hi⟩ := List.getElem?_of_mem hx
  have hl := (List.getElem?_eq_some_iff.mp hi).1
  have := h.2 i (by rw [h.1]; exact hl)
  rw [hi] at this
  exact List.mem_of_getElem? this
theorem r_sum {T l : List Cond} {r1 a m : Nat} {js0 : List Nat} (hT : tb s T) (hl : T.length < 1500) (hp : pn T + 150 ≤ 24000) (hA : isA (yY L xs) r1 0 m) (hm : a + l.length ≤ m) (hm2 : m < 100000) (hr1 : 200 < r1) (hjs : rwT T js0 l) (hv : ∀ i, i < l.length → s.1 r1 (a + i) = nI (js0.getD i 0)) (hf : (l.flatMap sumL).length < 400) (hz : z1 (sSum l) ≤ 150)
    (h : ∀ s' T' j, tb s' T' → gw s s' T T' → ad T (sSum l) T' → T'[j]? = some (sSum l) → K (some (nI j)) s') : tT (yY L xs) (d + 3) 158 0 [.ref 186, .ref r1, .int (nI a), .int (nI l.length), .null, .null, .null] [] s K := by
  have hlT := rwT_cn hT hjs
  have cl : ∀ x ∈ l, cn x := fun x hx => tb_cn hT (hlT x hx)
  have cS := cn_sSum cl
  have loop : ∀ q k (s1 : sT) (js : List Nat) (u5 u6 : Value), q + k = l.length → rwO s1.1 js → rwT T js (ddp [] ((l.take k).flatMap sumL)) → frR s s1 → tT (yY L xs) (d + 3) 158 8 [.ref 186, .ref r1, .int (nI a), .int (nI l.length), .int (nI k), u5, u6] [] s1 K := by
    intro q
    induction q with
    | zero =>
      intro k s1 js u5 u6 hk hr ht hfr
      have e : k = l.length := by omega
      subst e
      rw [List.take_length, ← cS.2] at ht
      have hT1 := frR_tb hfr hT
      refine b_158_8 ?_
      rw [if_pos (Int32.le_refl _)]
      refine ⟨so_186, ?_⟩
      rw [hr.1, ht.1]
      have hlen : (sumL (sSum l)).length < 400 := by
        have := ddp_len (l := l.flatMap sumL) (acc := [])
        rw [← cS.2, List.length_nil] at this
        omega
      by_cases h0 : (sumL (sSum l)).length = 0
      · rw [if_neg (by rw [h0]; exact fun q => q rfl)]
        have e0 : sSum l = S0 := by
          rw [← mkS_sumL cS.1, List.eq_nil_of_length_eq_zero h0]; rfl
        refine b_158_137 (h s1 T 0 hT1 (frR_gw hfr) (Or.inl ⟨rfl, ?_⟩) ?_)
        · rw [e0]; exact List.mem_of_getElem? (tbA5 hT 0 (by decide))
        · rw [e0]; exact tbA5 hT 0 (by decide)
      · rw [if_pos (show ¬ nI (sumL (sSum l)).length = 0 from fun e => h0 ((nJ_eq (by omega) (by decide)).mp e))]
        refine ⟨so_186, ?_⟩
        by_cases h1 : (sumL (sSum l)).length = 1
        · rw [if_neg (by rw [h1]; exact fun q => q rfl)]
          refine ⟨200, ⟨so_186, rm_186_18 hT1.1⟩, 400, ⟨sa_200, inR_nI (k := 0) (by decide) (by decide)⟩, ?_⟩
          obtain ⟨c, hc⟩ := List.length_eq_one_iff.mp h1
          have e1 : sSum l = c := by rw [← mkS_sumL cS.1, hc]; rfl
          have hj : T[js.getD 0 0]? = some (sSum l) := by
            rw [ht.2 0 (by rw [ht.1]; omega), hc, e1]; rfl
          have e2 : s1.1 200 (0 : Int32).toNatClampNeg = nI (js.getD 0 0) := hr.2 0 (by rw [ht.1]; omega)
          rw [e2]
          exact b_158_137 (h s1 T _ hT1 (frR_gw hfr) (Or.inl ⟨rfl, List.mem_of_getElem? hj⟩) hj)
        · rw [if_pos (show ¬ nI (sumL (sSum l)).length = 1 from fun e => h1 ((nJ_eq (by omega) (by decide)).mp e))]
          refine ⟨so_186, so_186, ?_⟩
          have h3 : kd (sSum l) = 3 := by
            have := mkS_sumL cS.1
            cases e : sumL (sSum l) with
            | nil => rw [e] at h0; exact absurd rfl h0
            | cons c1 t => cases t with
              | nil => rw [e] at h1; exact absurd rfl h1
              | cons c2 t => rw [e] at this; rw [← this]; rfl
          have hkk := r_keptB (K := fun r s2 => tT (yY L xs) (d + 3) 158 137 [.ref 186, .ref r1, .int (nI a), .int (nI l.length), .int (nI l.length), u5, u6] ((r.map Value.int).toList ++ []) s2 K) (d := d) (L := L) (xs := xs) hT1 hl hp cS.1 (by omega) hz hr.2 (by rw [← sumL_3 h3]; exact ht) (fun s' T' j q1 q2 q3 q4 => by rw [rt_some]; exact b_158_137 (h s' T' j q1 (gw_trans (frR_gw hfr) q2) q3 q4))
          rw [h3, ← sumL_3 h3] at hkk
          exact hkk
    | succ q ih =>
      intro k s1 js u5 u6 hk hr ht hfr
      have hkl : k < l.length := by omega
      have hT1 := frR_tb hfr hT
      have hM1 := hT1.1
      have hjk := rwT_at hjs hkl
      have hjl := (List.getElem?_eq_some_iff.mp hjk).1
      obtain ⟨-, ⟨off, hN⟩, -⟩ := hT1
      obtain ⟨hnd, -⟩ := hN.2.2.2.2.2 _ _ hjk
      have hkd := kd_le l[k]
      have ck := cl l[k] (List.getElem_mem hkl)
      have hb : (ddp [] ((l.take k).flatMap sumL)).length + (sumL l[k]).length < 400 := by
        have q1 := ddp_len (l := (l.take k).flatMap sumL) (acc := [])
        have q2 := take_flat_le (f := sumL) (l := l) (k + 1)
        rw [take_flat hkl, List.length_append] at q2
        rw [List.length_nil] at q1
        omega
      have nxt : ∀ (s2 : sT) (js2 : List Nat) (w5 w6 : Value), rwO s2.1 js2 → rwT T js2 (ddp (ddp [] ((l.take k).flatMap sumL)) (sumL l[k])) → frR s1 s2 → tT (yY L xs) (d + 3) 158 8 [.ref 186, .ref r1, .int (nI a), .int (nI l.length), .int (nI k + 1), w5, w6] [] s2 K := by
        intro s2 js2 w5 w6 g1 g2 g3
        have := ih (k + 1) s2 js2 w5 w6 (by omega) g1 (by rw [take_flat hkl, ddp_app]; exact g2) (frR_trans hfr g3)
        rw [nI_succ] at this
        exact this
      refine b_158_8 ?_
      rw [if_neg (by rw [nJ_le (by omega) (by omega)]; omega), nJ_add, nI_cl (show a + k < 2147483648 by omega), hfr.2.1 r1 (by omega) (by omega), hv k hkl]
      refine ⟨m, ⟨hA, inR_nI (by omega) (by omega)⟩, 190, ⟨so_186, rm_186_5 hM1⟩, 1500, ⟨sa_190, inR_nI (by omega) (by decide)⟩, ?_⟩
      rw [nI_cl (show js0.getD k 0 < 2147483648 by omega), hnd.1]
      by_cases h3 : kd l[k] = 3
      · rw [if_neg (by rw [h3]; exact fun q => q rfl)]
        have := sumL_3 h3
        rw [this] at hb nxt
        refine r_kids (s := s1) (d := d + 2) (cs := ddp [] ((l.take k).flatMap sumL)) hM1 hN (by omega) (by omega) hjk h3 hb (fun s2 js2 g1 g2 g3 => b_158_94 (nxt s2 js2 _ _ g1 g2 g3)) _ 0 s1 js (Nat.add_zero _) hr (by rw [List.take_zero]; exact ht) (frR_refl s1)
      · rw [if_pos (show ¬ nI (kd l[k]) = 3 from fun e => h3 ((nJ_eq (by omega) (by decide)).mp e))]
        refine ⟨190, ⟨so_186, rm_186_5 hM1⟩, 1500, ⟨sa_190, inR_nI (by omega) (by decide)⟩, ?_⟩
        rw [hnd.1]
        by_cases h0 : kd l[k] = 0
        · rw [if_pos (by rw [h0]; rfl)]
          have e0 : sumL l[k] = [] := by rw [(kd_0 ck).mp h0]; exact sumL_S0
          rw [e0] at nxt
          exact b_158_94 (nxt s1 js _ _ hr ht (frR_refl s1))
        · rw [if_neg (show ¬ nI (kd l[k]) = 0 from fun e => h0 ((nJ_eq (by omega) (by decide)).mp e))]
          have e1 := sumL_n3 ck h3 h0
          rw [e1] at nxt hb
          rw [List.length_singleton] at hb
          refine ⟨so_186, r_note hM1 hr ht hN.2.2.1 (by omega) hjk (by rw [ht.1]; omega) (fun s2 js2 g1 g2 g3 => ?_)⟩
          rw [rt_none]
          exact b_158_94 (nxt s2 js2 _ _ g1 g2 g3)
  refine b_158_0 ⟨so_186, loop l.length 0 _ [] .null .null rfl ⟨?_, fun i hi => absurd hi (Nat.not_lt_zero _)⟩ (rwT_nil T) frR_rows0⟩
  rw [pV_1, if_pos ⟨rfl, rfl⟩]; rfl
end SU
