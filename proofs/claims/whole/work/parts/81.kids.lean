section RQ
variable {L : Nat} {xs : Nat → Int32} {d : Nat} {s : sT} {K : Option Int32 → sT → Prop}
theorem ddp_len : ∀ {l acc : List Cond}, (ddp acc l).length ≤ acc.length + l.length
  | [], acc => Nat.le_refl _
  | x :: l, acc => by
    rw [ddp_cons, List.length_cons]
    split
    · have := ddp_len (l := l) (acc := acc); omega
    · have := ddp_len (l := l) (acc := acc ++ [x]); rw [List.length_append, List.length_singleton] at this; omega
/-- all summands of a node behind the row, each but once -/
theorem r_kids {T : List Cond} {off : Nat → Nat} {p k r1 : Nat} {y : Cond} {cs : List Cond} {x2 x3 x4 : Int32} (hM : rM s.2) (hT : rN s.1 T off p) (hp : p ≤ 24000) (hl : T.length ≤ 1500) (hk : T[k]? = some y) (h3 : kd y = 3) (hlen : cs.length + (chl y).length < 400)
    (h : ∀ s1 js1, rwO s1.1 js1 → rwT T js1 (ddp cs (chl y)) → frR s s1 → tT (yY L xs) (d + 1) 158 94 [.ref 186, .ref r1, .int x2, .int x3, .int x4, .int (nI k), .int (nI (chl y).length)] [] s1 K) : ∀ q i (s1 : sT) (js1 : List Nat), q + i = (chl y).length → rwO s1.1 js1 → rwT T js1 (ddp cs ((chl y).take i)) → frR s s1 → tT (yY L xs) (d + 1) 158 36 [.ref 186, .ref r1, .int x2, .int x3, .int x4, .int (nI k), .int (nI i)] [] s1 K := by
  have hkl := (List.getElem?_eq_some_iff.mp hk).1
  obtain ⟨⟨n1, n2, n3, -, -, -, -, n8⟩, n9⟩ := hT.2.2.2.2.2 k y hk
  rw [nch_3 (by omega)] at n3 n9
  intro q
  induction q with
  | zero =>
    intro i s1 js1 hi hr ht hf
    have e : i = (chl y).length := by omega
    subst e
    rw [List.take_length] at ht
    refine b_158_36 ⟨192, ⟨so_186, rm_186_7 (by rw [hf.1]; exact hM)⟩, 1500, ?_⟩
    rw [nI_cl (show k < 2147483648 by omega), hf.2.1 192 (by decide) (by decide), n3]
    refine ⟨⟨sa_192, inR_nI (by omega) (by decide)⟩, ?_⟩
    rw [if_pos (by rw [nJ_le (by omega) (by omega)]; omega)]
    exact h s1 js1 hr ht hf
  | succ q ih =>
    intro i s1 js1 hi hr ht hf
    have hi' : i < (chl y).length := by omega
    have hc : (chl y)[i]? = some ((chl y)[i]'hi') := List.getElem?_eq_getElem hi'
    obtain ⟨j, hj1, hj2⟩ := n8 i _ hc
    have hjl := (List.getElem?_eq_some_iff.mp hj1).1
    have hM1 : rM s1.2 := by rw [hf.1]; exact hM
    have hjs : js1.length ≤ cs.length + i := by
      rw [ht.1]
      have := ddp_len (l := (chl y).take i) (acc := cs)
      rw [List.length_take] at this
      omega
    refine b_158_36 ⟨192, ⟨so_186, rm_186_7 hM1⟩, 1500, ?_⟩
    rw [nI_cl (show k < 2147483648 by omega), hf.2.1 192 (by decide) (by decide), n3]
    refine ⟨⟨sa_192, inR_nI (by omega) (by decide)⟩, ?_⟩
    rw [if_neg (by rw [nJ_le (by omega) (by omega)]; omega)]
    refine ⟨195, ⟨so_186, rm_186_10 hM1⟩, 191, ⟨so_186, rm_186_6 hM1⟩, 1500, ?_⟩
    rw [hf.2.1 191 (by decide) (by decide), n2, nJ_add, nI_cl (show off k + i < 2147483648 by omega), hf.2.1 195 (by decide) (by decide), hj2]
    refine ⟨⟨sa_191, inR_nI (by omega) (by decide)⟩, 24000, ⟨sa_195, inR_nI (by omega) (by decide)⟩, so_186, ?_⟩
    refine r_note hM1 hr ht hT.2.2.1 hl hj1 (by omega) (fun s2 js2 hr2 ht2 hf2 => ?_)
    rw [rt_none]
    refine b_158_68 ?_
    have e : ddp (ddp cs ((chl y).take i)) [(chl y)[i]'hi'] = ddp cs ((chl y).take (i + 1)) := by
      rw [← ddp_app, List.take_succ_eq_append_getElem hi']
    rw [e] at ht2
    have := ih (i + 1) s2 js2 (by omega) hr2 ht2 (frR_trans hf hf2)
    rw [nI_succ] at this
    exact this
end RQ
