/-! PROVE -/
section PV
variable {L : Nat} {xs : Nat → Int32} {d : Nat} {s : sT} {K : Option Int32 → sT → Prop} {R : rmT} {I : Nat → Option rmT} {X0 X1 : Cond}
/-- the lines of a search -/
def lnP (X0 X1 : Cond) : lnT := lnH (srR X0 X1).2.1 (srR X0 X1).2.2 (wdO (srR X0 X1))
theorem c_prove (hC : simC s R I) (h0 : cn X0 ∧ z0 X0 ≤ 30 ∧ R.2.2.1 = sdOf X0) (h1 : cn X1 ∧ z0 X1 ≤ 30 ∧ R.2.2.2.1 = sdOf X1) : doC (yY L xs) (d + 6) 126 [.ref 0] s R I (some (srR X0 X1).1) (rmL R (lnP X0 X1)) I := by
  intro K kk
  have hP := hC.1
  obtain ⟨c0, hc0, hx0, hs0⟩ := now_side2 (L := L) (xs := xs) (σ := 0) hC (by decide) (show sideOf R 0 = _ from h0.2.2) h0.1 h0.2.1
  obtain ⟨c1, hc1, hx1, hs1⟩ := now_side2 (L := L) (xs := xs) (σ := 1) hC (by decide) (show sideOf R 1 = _ from h1.2.2) h1.1 h1.2.1
  refine b_126_0 ⟨47, ⟨so_0, rp_0_2 hP⟩, 61, ⟨so_0, rp_0_8 hP⟩, 64, ⟨so_61, rp_61_1 hP⟩, 5, 2, c0, ⟨sq_64, inR_nI (k := 0) (by decide) (by decide), hc0⟩, 61, ⟨so_0, rp_0_8 hP⟩, 64, ⟨so_61, rp_61_1 hP⟩, 5, 2, c1, ⟨sq_64, inR_nI (k := 1) (by decide) (by decide), hc1⟩, 61, ⟨so_0, rp_0_8 hP⟩, 84, ⟨so_61, rp_61_3 hP⟩, so_47, c_run (d := d) hP (Or.inr rfl) hx0 hx1 (by omega) (by omega) (fun s' a b c e g => ?_)⟩
  rw [rt_some]
  refine b_126_32 (kk s' ?_ (fun i hi => ⟨c i (by omega) (by omega), a i (by omega)⟩))
  refine simC_mk hC b (a 64 (by decide)) (fun i x y => c i (by omega) (by omega)) rfl (fun k0 k1 hcs hrm => ⟨txC_off hrm.1 (c 62 (by omega) (by omega)) (c 63 (by omega) (by omega)), by rw [c 61 (by omega) (by omega)]; exact hrm.2.1, sdC_off hrm.2.2.1 (fun i x y => c i (by rcases hcs.2.2 with ⟨rfl, rfl⟩ | ⟨rfl, rfl⟩ <;> omega) (by rcases hcs.2.2 with ⟨rfl, rfl⟩ | ⟨rfl, rfl⟩ <;> omega)), sdC_off hrm.2.2.2.1 (fun i x y => c i (by rcases hcs.2.2 with ⟨rfl, rfl⟩ | ⟨rfl, rfl⟩ <;> omega) (by rcases hcs.2.2 with ⟨rfl, rfl⟩ | ⟨rfl, rfl⟩ <;> omega)), g⟩)
theorem r_prove (hR : simR s R I) (hI : ∀ k R', k < 2 → I k = some R' → rmB gD R') (hB : rmB gD R) (h0 : cn X0 ∧ z0 X0 ≤ 30 ∧ R.2.2.1 = sdOf X0) (h1 : cn X1 ∧ z0 X1 ≤ 30 ∧ R.2.2.2.1 = sdOf X1) : doR (yY L xs) (d + 10) 191 [.ref 186] s R I (some (srR X0 X1).1) (rmL R (lnP X0 X1)) I := by
  intro K kk
  refine b_191_0 ⟨so_186, r_lay (d := d) hR hI h0.1 h0.2.1 h1.1 h1.2.1 h0.2.2 h1.2.2 (fun s1 T g1 g2 g3 g4 g5 g6 g7 => ?_)⟩
  rw [rt_none]
  refine b_191_7 ⟨so_186, tt_mono (r_searches (d := d) (b := 0) ⟨g1, g2, g5, g6⟩ h0.1 h0.2.1 (by decide) (fun s2 f2 hCI hsr hap => ?_)) (by omega) (fun _ _ q => q)⟩
  rw [rt_some]
  obtain ⟨p1, p2, p3⟩ := g7.2.2.1
  have o : ∀ z, z ≠ 187 → z < 215 → s2.1 z = s1.1 z := fun z a b => f2.2.1 z a (by omega)
  have hlow : ∀ j, j < 186 → s2.1 187 j = s1.1 187 j := fun j hj => f2.2.2 j (by omega)
  have tx : ∀ (p : Nat) (x : txT), txR (s1.1 187) p x → p + 1 + x.1 ≤ 186 → txR (s2.1 187) p x := fun p x h hl => ⟨by rw [hlow p (by omega)]; exact h.1, fun j hj => by rw [hlow _ (by omega)]; exact h.2 j hj⟩
  refine b_191_12 (kk s2 ?_ (fun i hi => ⟨(o i (by omega) (by omega)).trans (g4.2.1 i (by omega) (by omega)), by rw [f2.1, g4.1]⟩))
  refine simR_mk g7 hI f2.1 (fun t ht => by rw [o 188 (by decide) (by decide)]; exact p2 t ht) (o 189 (by decide) (by decide)) (by rw [o 186 (by decide) (by decide)]; exact p1) (by rw [o 186 (by decide) (by decide)]; exact p3) (fun t ht => f2.2.2 t (by omega)) ⟨tx 0 _ g7.2.1.1 ?_, tx 31 _ g7.2.1.2.1 ?_, fun k hk => ?_, lnR_of hsr hap⟩
  · have := (gD_sdB _ hB.2.1).1
    show 0 + 1 + R.2.2.1.1.1 ≤ 186; omega
  · have := (gD_sdB _ hB.2.2.1).1
    show 31 + 1 + R.2.2.2.1.1.1 ≤ 186; omega
  · have := (gD_sdB _ (hB.2.2.2.1 k hk)).1
    exact tx _ (R.2.2.2.2.1 k).1 (g7.2.1.2.2.1 k hk) (by omega)
theorem srch_I (hz : z0 X0 ≤ 30) (c0 : cn X0) : ∀ q C D, cI (tms X0).length C D → cI (tms X0).length (srch (tms X0) (tms X1) q C D).2.1 (srch (tms X0) (tms X1) q C D).2.2 := by
  have hlt := lts_30 hz
  intro q
  induction q with
  | zero => intro C D h; exact h
  | succ q ih =>
    intro C D h
    by_cases hle : C.length ≤ D.length
    · have : srch (tms X0) (tms X1) (q + 1) C D = (0, C, D) := by
        conv => lhs; unfold srch
        rw [if_pos hle]
      rw [this]; exact h
    have hi := List.getElem?_eq_getElem (show D.length < C.length by omega)
    generalize C[D.length] = c at hi
    have hc1 := (h.2.2.1 _ c hi).1
    have hy := List.getElem?_eq_getElem hc1
    generalize (tms X0)[c.1] = y at hy
    rw [srch_s _ _ _ _ _ hi hy]
    split
    · exact ih C _ (cI_D h (by omega) (by decide))
    · split
      · exact h
      · have h3 := pt_three c0 ((tms_all c0 (by omega)).2.1 y (List.mem_of_getElem? hy))
        have hI := stp_I (dmL (tms X0) (tms X1) y c.2.1 3 0) C [] (dm_in (fun x hx z hz => tms_cl c0 (by omega) (List.mem_of_getElem? hy) hx hz) 3 0 (Nat.le_refl _)) h hi rfl
        rw [dmL_len] at hI
        generalize hst : stp D.length c.2.2.2.2 (dmL (tms X0) (tms X1) y c.2.1 3 0) C [] = st at hI
        obtain ⟨ok, C', P⟩ := st
        obtain ⟨i1, ⟨e, i2⟩, i3⟩ := hI
        have i2 : C' = C ++ e := i2
        have i3 : P.length ≤ 0 + _ := i3
        cases ok with
        | true => exact ih C' _ (cI_D i1 (by have q : C' = C ++ e := i2; rw [q, List.length_append]; omega) (show P.length ≤ 30 by have q : P.length ≤ 0 + ((pt y 0).length + (pt y 1).length + (pt y 2).length) := i3; omega))
        | false => exact i1
theorem srR_I (hz : z0 X0 ≤ 30) (c0 : cn X0) : cI (tms X0).length (srR X0 X1).2.1 (srR X0 X1).2.2 := by
  have hn0 : 1 ≤ (tms X0).length := (List.getElem?_eq_some_iff.mp (tms_at0 c0 hz)).1
  have hC0 : cI (tms X0).length ([] : List cmT) ([] : List dnT) := ⟨Nat.zero_le _, Nat.le_refl _, (fun k l q => by cases q), (fun k => by rw [dg_out (Nat.zero_le _)]; exact Nat.zero_le _)⟩
  exact srch_I hz c0 300 [(0, 1, -1, 0, 0)] [] (cI_app hC0 (by decide) hn0 (Or.inl rfl))
theorem pr_prove : pairOK (yY L xs) (Sim gD) (d + 10) 126 191 [.ref 0] [.ref 186] true := by
  refine pair_of fun s R I hC hR hB hI => ?_
  obtain ⟨X0, X1, h0, h1⟩ := both_X hB
  have hci := srR_I (X1 := X1) h0.2.1 h0.1
  exact ⟨_, rmL R (lnP X0 X1), I, rfl, ⟨hB.1, hB.2.1, hB.2.2.1, hB.2.2.2.1, lnH_B hci (wdO_B hci)⟩, hI, c_prove (d := d + 4) hC h0 h1, fun _ hR1 => r_prove hR1 hI hB h0 h1⟩
end PV
