/-! PAIRS OF CALLS: write -/
/-- byte i of a long -/
def wB (w : Int64) (i : Nat) : Int64 := (w.toUInt64 >>> (((56 : Int32) - ((8 : Int32) * nI i)).toInt64.toUInt64 &&& Int64.toUInt64 63)).toInt64
def wb (w : Int64) (i : Nat) : Int32 := (wB w i).toInt32 &&& 255
theorem wb_ref (x : Int64) : (x &&& 255 : Int64).toInt32 = x.toInt32 &&& 255 := by
  rw [Int64.toInt32_and]; rfl
theorem wb_zero (x : Int64) : (x &&& 255 : Int64) = 0 ↔ x.toInt32 &&& 255 = 0 := by
  rw [← wb_ref]
  constructor
  · intro h; rw [h]; rfl
  · intro h
    have h1 : (x &&& 255 : Int64).toInt32.toBitVec.toNat = 0 := by rw [h]; rfl
    have e : (x &&& 255 : Int64).toBitVec.toNat = x.toBitVec.toNat &&& 255 := by
      rw [Int64.toBitVec_and, BitVec.toNat_and]; rfl
    have hlt : x.toBitVec.toNat &&& 255 < 256 := Nat.lt_of_le_of_lt Nat.and_le_right (by decide)
    have h2 : (x &&& 255 : Int64).toInt32.toBitVec.toNat = (x &&& 255 : Int64).toBitVec.toNat % 2 ^ 32 := by
      rw [Int64.toBitVec_toInt32, BitVec.signExtend_eq_setWidth_of_le _ (by decide), BitVec.toNat_setWidth]
    rw [h2, e, Nat.mod_eq_of_lt (by omega)] at h1
    apply Int64.toBitVec_inj.mp
    apply BitVec.eq_of_toNat_eq
    rw [e, h1]; rfl
theorem lg_cmp_0 (x : Int64) : lg_cmp x 0 = 0 ↔ x = 0 := by
  unfold lg_cmp
  constructor
  · intro h
    split at h
    · cases h
    · split at h
      · assumption
      · cases h
  · intro h
    subst h
    rfl
/-- how many bytes come before the first 0, n of them known to be none -/
def wN (w : Int64) : Nat → Nat → Nat
  | 0, n => n
  | q + 1, n => if wb w n = 0 then n else wN w q (n + 1)
theorem wN_le (w : Int64) : ∀ q n, wN w q n ≤ q + n
  | 0, n => by unfold wN; omega
  | q + 1, n => by
    have := wN_le w q (n + 1)
    unfold wN
    split <;> omega
section HW
variable {GD : sdT → Prop} {L : Nat} {xs : Nat → Int32} {D : Nat}
theorem c_bytesOf {Y : sY} {d : Nat} {s : sT} {K : Option Int32 → sT → Prop} {w : Int64} (h : K (some (nI (wN w 8 0))) s) : tT Y (d + 1) 142 0 [.long w, .null, .null] [] s K := by
  have loop : ∀ q n, q + n = 8 → K (some (nI (wN w q n))) s → tT Y (d + 1) 142 2 [.long w, .null, .int (nI n)] [] s K := by
    intro q
    induction q with
    | zero =>
      intro n hn hk
      refine b_142_2 ?_
      rw [if_pos (by rw [nI_lit 8, nJ_le (by omega) (by omega)]; omega)]
      exact hk
    | succ q ih =>
      intro n hn hk
      refine b_142_2 ?_
      rw [if_neg (by rw [nI_lit 8, nJ_le (by omega) (by omega)]; omega)]
      refine b_141_0 ?_
      rw [rt_some]
      refine b_142_13 ?_
      show if wb w n = 0 then _ else _
      unfold wN at hk
      by_cases e : wb w n = 0
      · rw [if_pos e] at hk
        rw [if_pos e]; exact hk
      · rw [if_neg e] at hk
        rw [if_neg e]
        have := ih (n + 1) (by omega) hk
        rw [nI_succ] at this; exact this
  exact b_142_0 (loop 8 0 rfl h)
/-- the tape with n bytes of w more -/
def txW (x : txT) (w : Int64) (n : Nat) : txT := (x.1 + n, fun j => if j < x.1 then x.2 j else wb w (j - x.1))
def rmT1 (R : rmT) (x : txT) : rmT := (x, R.2)
theorem c_write {s : sT} {R : rmT} {I : Nat → Option rmT} (hC : simC s R I) (hB : R.1.1 ≤ 60) (w : Int64) : doC (yY L xs) (D + 2) 114 [.ref 0, .long w, .null, .null, .null, .null] s R I (some (if 60 < R.1.1 + wN w 8 0 then -1 else nI (R.1.1 + wN w 8 0))) (if 60 < R.1.1 + wN w 8 0 then R else rmT1 R (txW R.1 w (wN w 8 0))) I := by
  intro K k
  have hC0 := hC
  obtain ⟨hP, ⟨c0, c1, hc, hr⟩, q3⟩ := hC
  have hcc := hc.2.2
  have h8 := wN_le w 8 0
  have htx : tX (yY L xs) s.2 62 60 := ⟨so_62, sa_63, rp_62_0 hP, by decide⟩
  refine b_114_0 (c_bytesOf ?_)
  rw [rt_some]
  refine b_114_4 ⟨61, ⟨so_0, rp_0_8 hP⟩, 62, ⟨so_61, rp_61_0 hP⟩, so_62, ?_⟩
  rw [show s.1 62 1 = nI R.1.1 from hr.1.1, nJ_add]
  by_cases hle : 60 < R.1.1 + wN w 8 0
  · rw [if_pos hle, if_pos hle] at k
    rw [if_neg (by rw [nI_lit 60, nJ_le (by omega) (by omega)]; omega)]
    exact k s hC0 (fun i _ => ⟨rfl, rfl⟩)
  · rw [if_neg hle, if_neg hle] at k
    rw [if_pos (by rw [nI_lit 60, nJ_le (by omega) (by omega)]; omega)]
    have loop : ∀ q j (s1 : sT), q + j = wN w 8 0 → s1.2 = s.2 → (∀ i, i ≠ 62 → i ≠ 63 → s1.1 i = s.1 i) → txC s1.1 62 (txW R.1 w j) → tT (yY L xs) (D + 2) 114 31 [.ref 0, .long w, .null, .int (nI (wN w 8 0)), .ref 62, .int (nI j)] [] s1 K := by
      intro q
      induction q with
      | zero =>
        intro j s1 hj e2 e1 et
        refine b_114_31 ?_
        rw [if_pos (by rw [nJ_le (by omega) (by omega)]; omega)]
        have hj' : j = wN w 8 0 := by omega
        subst hj'
        refine ⟨so_62, ?_⟩
        rw [et.1]
        refine k s1 ⟨by rw [e2]; exact hP, ⟨c0, c1, by rw [e2]; exact hc, ?_⟩, fun i hi => ?_⟩ (fun i hi => ⟨e1 i (by omega) (by omega), by rw [e2]⟩)
        · obtain ⟨r1, r2, r3, r4, r5, r6⟩ := hr
          exact ⟨et, by rw [e1 61 (by omega) (by omega)]; exact r2, sdC_off r3 (fun i _ _ => e1 i (by omega) (by omega)), sdC_off r4 (fun i _ _ => e1 i (by omega) (by omega)), fun i hi => txC_off (r5 i hi) (e1 _ (by omega) (by omega)) (e1 _ (by omega) (by omega)), lnC_off r6 (fun i _ _ => e1 i (by omega) (by omega))⟩
        · have := q3 i hi
          cases hI : I i with
          | none => rw [hI] at this; simp only at this ⊢; rw [e1 185 (by omega) (by omega)]; exact this
          | some R' =>
            rw [hI] at this
            simp only at this ⊢
            rw [e1 185 (by omega) (by omega)]
            exact ⟨this.1, rmC_off this.2 ⟨by omega, by omega⟩ ⟨by omega, by omega⟩ (fun i _ _ => e1 i (by omega) (by omega))⟩
      | succ q ih =>
        intro j s1 hj e2 e1 et
        refine b_114_31 ?_
        rw [if_neg (by rw [nJ_le (by omega) (by omega)]; omega)]
        refine b_141_0 ?_
        rw [rt_some]
        refine b_114_45 ⟨so_62, x_add (cap := 60) (n := R.1.1 + j) (by rw [e2]; exact htx) et.1 (by omega) ?_⟩
        rw [rt_none]
        refine b_114_48 ?_
        have := ih (j + 1) (pV (pV s1 63 (R.1.1 + j) (wb w j)) 62 1 (nI (R.1.1 + j + 1))) (by omega) e2 (fun i h1 h2 => by rw [← e1 i h1 h2]; funext z; rw [pV_1, if_neg (by omega), pV_1, if_neg (by omega)]) ⟨?_, fun z hz => ?_⟩
        · rw [nI_succ] at this; exact this
        · rw [pV_1, if_pos ⟨rfl, rfl⟩]; rfl
        · have hz : z < R.1.1 + (j + 1) := hz
          rw [pV_1, if_neg (by omega), pV_1]
          show _ = if z < R.1.1 then R.1.2 z else wb w (z - R.1.1)
          by_cases e : z = R.1.1 + j
          · subst e
            rw [if_pos ⟨rfl, rfl⟩, if_neg (by omega), Nat.add_sub_cancel_left]
          · rw [if_neg (fun y => e y.2)]
            exact et.2 z (show z < R.1.1 + j by omega)
    refine loop (wN w 8 0) 0 s (by omega) rfl (fun _ _ _ => rfl) ⟨hr.1.1, fun z hz => ?_⟩
    have hz : z < R.1.1 := hz
    rw [hr.1.2 z hz]
    show _ = if z < R.1.1 then R.1.2 z else wb w (z - R.1.1)
    rw [if_pos hz]
theorem r_write {s : sT} {R : rmT} {I : Nat → Option rmT} (hR : simR s R I) (hB : R.1.1 ≤ 60) (w : Int64) : doR (yY L xs) D 208 [.ref 186, .long w, .null, .null, .null] s R I (some (if 60 < R.1.1 + wN w 8 0 then -1 else nI (R.1.1 + wN w 8 0))) (if 60 < R.1.1 + wN w 8 0 then R else rmT1 R (txW R.1 w (wN w 8 0))) I := by
  intro K k
  have hR0 := hR
  obtain ⟨hM, hr, ⟨p1, p2, p3⟩, q3⟩ := hR
  have h8 := wN_le w 8 0
  have fin : tT (yY L xs) D 208 32 [.ref 186, .long w, .null, .int (nI (wN w 8 0)), .null] [] s K := by
    refine b_208_32 ⟨so_186, ?_⟩
    rw [p1, nJ_add]
    by_cases hle : 60 < R.1.1 + wN w 8 0
    · rw [if_pos hle, if_pos hle] at k
      rw [if_neg (by rw [nI_lit 60, nJ_le (by omega) (by omega)]; omega)]
      exact k s hR0 (fun i _ => ⟨rfl, rfl⟩)
    · rw [if_neg hle, if_neg hle] at k
      rw [if_pos (by rw [nI_lit 60, nJ_le (by omega) (by omega)]; omega)]
      have loop : ∀ q j (s1 : sT), q + j = wN w 8 0 → s1.2 = s.2 → (∀ i, i ≠ 188 → s1.1 i = s.1 i) → (∀ z, z < R.1.1 + j → s1.1 188 z = (txW R.1 w j).2 z) → tT (yY L xs) D 208 48 [.ref 186, .long w, .null, .int (nI (wN w 8 0)), .int (nI j)] [] s1 K := by
        intro q
        induction q with
        | zero =>
          intro j s1 hj e2 e1 et
          refine b_208_48 ?_
          rw [if_pos (by rw [nJ_le (by omega) (by omega)]; omega)]
          have hj' : j = wN w 8 0 := by omega
          subst hj'
          refine ⟨so_186, so_186, so_186, ?_⟩
          rw [pV_1, if_pos ⟨rfl, rfl⟩, e1 186 (by omega), p1, nJ_add]
          have o : ∀ i, i ≠ 186 → (pV s1 186 3 (nI (R.1.1 + wN w 8 0))).1 i = s1.1 i := fun i hi => by funext z; rw [pV_1, if_neg (fun y => hi y.1)]
          refine k _ ⟨by show rM s1.2; rw [e2]; exact hM, by rw [o 187 (by omega), e1 187 (by omega)]; exact hr, ⟨by rw [pV_1, if_pos ⟨rfl, rfl⟩]; rfl, fun z hz => by rw [o 188 (by omega)]; exact et z hz, by rw [pV_1, if_neg (by omega), e1 186 (by omega)]; exact p3⟩, fun i hi => ?_⟩ (fun i hi => ⟨by rw [o i (by omega), e1 i (by omega)], by show s1.2 i = s.2 i; rw [e2]⟩)
          have := q3 i hi
          cases hI : I i with
          | none => rw [hI] at this; simp only at this ⊢; rw [o 189 (by omega), e1 189 (by omega)]; exact this
          | some R' => rw [hI] at this; simp only at this ⊢; rw [o 189 (by omega), e1 189 (by omega), o 187 (by omega), e1 187 (by omega)]; exact this
        | succ q ih =>
          intro j s1 hj e2 e1 et
          refine b_208_48 ?_
          rw [if_neg (by rw [nJ_le (by omega) (by omega)]; omega)]
          refine ⟨188, ⟨so_186, by rw [e2]; exact rm_186_1 hM⟩, so_186, 60, ?_⟩
          rw [e1 186 (by omega), p1, nJ_add, nI_cl (by omega), wb_ref]
          refine ⟨⟨sa_188, inR_nI (by omega) (by omega)⟩, ?_⟩
          have := ih (j + 1) (pV s1 188 (R.1.1 + j) (wb w j)) (by omega) e2 (fun i hi => by rw [← e1 i hi]; funext z; rw [pV_1, if_neg (fun y => hi y.1)]) (fun z hz => ?_)
          · rw [nI_succ] at this; exact this
          · rw [pV_1]
            show _ = if z < R.1.1 then R.1.2 z else wb w (z - R.1.1)
            by_cases e : z = R.1.1 + j
            · subst e
              rw [if_pos ⟨rfl, rfl⟩, if_neg (by omega), Nat.add_sub_cancel_left]
            · rw [if_neg (fun y => e y.2)]
              exact et z (by omega)
      refine loop (wN w 8 0) 0 s (by omega) rfl (fun _ _ => rfl) (fun z hz => ?_)
      rw [p2 z (by omega)]
      show _ = if z < R.1.1 then R.1.2 z else wb w (z - R.1.1)
      rw [if_pos (by omega)]
  have loop : ∀ q n, q + n = 8 → wN w q n = wN w 8 0 → tT (yY L xs) D 208 2 [.ref 186, .long w, .null, .int (nI n), .null] [] s K := by
    intro q
    induction q with
    | zero =>
      intro n hn hw
      refine b_208_2 ?_
      rw [if_pos (by rw [nI_lit 8, nJ_le (by omega) (by omega)]; omega)]
      have e : n = wN w 8 0 := hw
      rw [e]; exact fin
    | succ q ih =>
      intro n hn hw
      refine b_208_2 ?_
      rw [if_neg (by rw [nI_lit 8, nJ_le (by omega) (by omega)]; omega)]
      unfold wN at hw
      by_cases e : wb w n = 0
      · rw [if_pos e] at hw
        rw [if_pos (by rw [lg_cmp_0, wb_zero]; exact e), hw]; exact fin
      · rw [if_neg e] at hw
        rw [if_neg (by rw [lg_cmp_0, wb_zero]; exact e)]
        have := ih (n + 1) (by omega) hw
        rw [nI_succ] at this; exact this
  exact b_208_0 (loop 8 0 rfl rfl)
theorem wb_n1 (w : Int64) (i : Nat) : wb w i ≠ -1 := by
  intro h
  have h2 : (wb w i) &&& 256 = (-1 : Int32) &&& 256 := by rw [h]
  unfold wb at h2
  rw [Int32.and_assoc, show (255 : Int32) &&& 256 = 0 from rfl, Int32.and_zero] at h2
  exact absurd h2 (by decide)
theorem pr_write (w : Int64) : pairOK (yY L xs) (Sim GD) (D + 2) 114 208 [.ref 0, .long w, .null, .null, .null, .null] [.ref 186, .long w, .null, .null, .null] true := by
  refine pair_of fun s R I hC hR hB hI => ⟨_, _, I, rfl, ?_, hI, c_write hC hB.1.1 w, fun _ hR1 => r_write (D := D + 2) hR1 hB.1.1 w⟩
  split
  · exact hB
  · rename_i h
    refine ⟨⟨show R.1.1 + wN w 8 0 ≤ 60 by omega, fun j hj => ?_⟩, hB.2⟩
    show (if j < R.1.1 then R.1.2 j else wb w (j - R.1.1)) ≠ -1
    split
    · rename_i hl
      exact hB.1.2 j hl
    · exact wb_n1 w _
end HW
