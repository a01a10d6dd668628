/-! HOW FEW -/
def nbs : Cond → Nat
  | .or a b => nbs a + nbs b + 1
  | .and a b => nbs a + nbs b
  | .not a => nbs a + 1
  | _ => 1
def tri : Nat → Nat
  | 0 => 0
  | n + 1 => tri n + (n + 1)
def tet : Nat → Nat
  | 0 => 0
  | n + 1 => tet n + tri (n + 1)
theorem tri_add (a : Nat) : ∀ b, tri (a + b) = tri a + tri b + a * b
  | 0 => by show tri a = tri a + 0 + a * 0; omega
  | b + 1 => by
    have ih := tri_add a b
    show tri (a + b) + (a + b + 1) = tri a + (tri b + (b + 1)) + a * (b + 1)
    rw [ih, Nat.mul_succ]
    omega
theorem tet_add (a : Nat) : ∀ b, tet (a + b) = tet a + tet b + a * tri b + b * tri a
  | 0 => by show tet a = tet a + 0 + a * 0 + 0 * tri a; omega
  | b + 1 => by
    have ih := tet_add a b
    have e : tri (a + (b + 1)) = tri a + tri (b + 1) + a * (b + 1) := tri_add a (b + 1)
    show tet (a + b) + tri (a + (b + 1)) = tet a + (tet b + tri (b + 1)) + a * tri (b + 1) + (b + 1) * tri a
    have e2 : tri (b + 1) = tri b + (b + 1) := rfl
    have e3 : a * tri (b + 1) = a * tri b + a * (b + 1) := by rw [e2, Nat.mul_add]
    have e4 : (b + 1) * tri a = b * tri a + tri a := Nat.succ_mul _ _
    rw [ih, e, e3, e4]
    omega
theorem tri_ge : ∀ n, n ≤ tri n
  | 0 => Nat.le_refl _
  | n + 1 => by show n + 1 ≤ tri n + (n + 1); omega
theorem nbs_1 : ∀ x : Cond, 1 ≤ nbs x := by
  intro x
  induction x with
  | or a b _ _ => show 1 ≤ nbs a + nbs b + 1; omega
  | and a b ha _ => show 1 ≤ nbs a + nbs b; omega
  | not a _ => show 1 ≤ nbs a + 1; omega
  | _ => exact Nat.le_refl _
theorem nbs_z : ∀ {x : Cond}, cn x → nbs x ≤ z0 x := by
  intro x
  induction x with
  | or a b iha ihb =>
    intro h
    have := iha h.1
    have := ihb h.2.2.2.1
    rw [(z_or a b).1]
    show nbs a + nbs b + 1 ≤ _
    omega
  | and a b iha ihb =>
    intro h
    have := iha h.1
    have := ihb h.2.2.2.2.1
    have := z01 h.1
    have := z01 h.2.2.2.2.1
    rw [(z_and a b).1]
    show nbs a + nbs b ≤ _
    omega
  | not a iha =>
    intro h
    have := iha h.1
    have := z01 h.1
    have := z12 h.1
    rw [(z_not a).1]
    show nbs a + 1 ≤ _
    omega
  | count k => intro _; exact Nat.le_refl _
  | _ => intro h; exact h.elim
theorem sumL_nb : ∀ x : Cond, (sumL x).length ≤ nbs x := by
  intro x
  induction x with
  | or a b _ ihb =>
    rw [sumL_or, List.length_cons]
    have := nbs_1 a
    show _ ≤ nbs a + nbs b + 1
    omega
  | count k => show (if Cond.count k = S0 then [] else [Cond.count k]).length ≤ 1; split <;> simp
  | not a _ => exact nbs_1 _
  | and a b _ _ => exact nbs_1 _
  | _ => exact Nat.le_refl _
theorem prodL_nb : ∀ x : Cond, (prodL x).length ≤ nbs x := by
  intro x
  induction x with
  | and a b _ ihb =>
    rw [prodL_and, List.length_cons]
    have := nbs_1 a
    show _ ≤ nbs a + nbs b
    omega
  | count k => show (if Cond.count k = S1 then [] else [Cond.count k]).length ≤ 1; split <;> simp
  | not a _ => exact nbs_1 _
  | or a b _ _ => exact nbs_1 _
  | _ => exact Nat.le_refl _
def msum : List Cond → Nat
  | [] => 0
  | y :: l => (prodL y).length + msum l
theorem msum_app : ∀ (l m : List Cond), msum (l ++ m) = msum l + msum m
  | [], m => by rw [List.nil_append]; show _ = 0 + _; omega
  | x :: l, m => by rw [List.cons_append]; show (prodL x).length + msum (l ++ m) = (prodL x).length + msum l + msum m; rw [msum_app l m]; omega
theorem msum_map {b : Cond} (cb : cn b) (hb : b ≠ S0) (hb1 : b ≠ S1) : ∀ {l : List Cond}, (∀ v ∈ l, cn v ∧ v ≠ S0 ∧ v ≠ S1) → msum (l.map fun y => pj y b) = msum l + l.length * (prodL b).length ∧ pn (l.map fun y => pj y b) = msum (l.map fun y => pj y b)
  | [], _ => ⟨by show 0 = 0 + 0 * _; omega, rfl⟩
  | v :: l, h => by
    have cv := h v List.mem_cons_self
    obtain ⟨i1, i2⟩ := msum_map cb hb hb1 (l := l) (fun w hw => h w (List.mem_cons_of_mem _ hw))
    have e1 : (prodL (pj v b)).length = (prodL v).length + (prodL b).length := by rw [(pj_L cv.1 cv.2.1 cb hb).1, List.length_append]
    have e2 : nch (pj v b) = (prodL (pj v b)).length := by
      have hp := pj_isP cv.1 cv.2.1 cv.2.2 cb hb hb1
      have hk := (kd_4 (pj_L cv.1 cv.2.1 cb hb).2.1).mpr hp
      rw [nch_3 (by omega), prodL_4 hk]
    rw [List.map_cons]
    refine ⟨?_, ?_⟩
    · show (prodL (pj v b)).length + msum (l.map fun y => pj y b) = (prodL v).length + msum l + (l.length + 1) * (prodL b).length
      rw [e1, i1, Nat.succ_mul]; omega
    · show nch (pj v b) + pn (l.map fun y => pj y b) = (prodL (pj v b)).length + msum (l.map fun y => pj y b)
      rw [e2, i2]
theorem sf_few : ∀ {x : Cond}, cn x → (sf x).length + 1 ≤ nbs x ∧ msum (sf x) + nbs x ≤ tri (nbs x) := by
  intro x
  induction x with
  | or a b iha ihb =>
    intro h
    obtain ⟨a1, a2⟩ := iha h.1
    obtain ⟨b1, b2⟩ := ihb h.2.2.2.1
    have e1 : (sf (.or a b)).length = (sf a).length + (sf b).length := List.length_append
    have e2 : msum (sf (.or a b)) = msum (sf a) + msum (sf b) := msum_app _ _
    have e3 : nbs (.or a b) = nbs a + nbs b + 1 := rfl
    have e4 : tri (nbs a + nbs b + 1) = tri (nbs a + nbs b) + (nbs a + nbs b + 1) := rfl
    have e5 := tri_add (nbs a) (nbs b)
    rw [e1, e2, e3, e4, e5]
    omega
  | and a b iha ihb =>
    intro h
    obtain ⟨a1, a2⟩ := iha h.1
    obtain ⟨b1, b2⟩ := ihb h.2.2.2.2.1
    have e1 : (sf (.and a b)).length = (sf a).length + ((sf b).length + 1) := by
      show ((sf a).map _ ++ b :: sf b).length = _
      rw [List.length_append, List.length_map, List.length_cons]
    obtain ⟨m1, -⟩ := msum_map h.2.2.2.2.1 h.2.2.2.2.2.1 h.2.2.2.2.2.2 (l := sf a) (sf_cn h.1)
    have e2 : msum (sf (.and a b)) = msum (sf a) + (sf a).length * (prodL b).length + ((prodL b).length + msum (sf b)) := by
      show msum ((sf a).map _ ++ b :: sf b) = _
      rw [msum_app, m1]; rfl
    have e3 : nbs (.and a b) = nbs a + nbs b := rfl
    have e5 := tri_add (nbs a) (nbs b)
    have hp := prodL_nb b
    have e6 : ((sf a).length + 1) * (prodL b).length ≤ nbs a * nbs b := Nat.mul_le_mul a1 hp
    rw [Nat.succ_mul] at e6
    rw [e1, e2, e3, e5]
    omega
  | not a iha =>
    intro h
    obtain ⟨a1, a2⟩ := iha h.1
    have e1 : (sf (.not a)).length = (sf a).length + 1 := by
      show ((sf a).map _ ++ [Cond.not a]).length = _
      rw [List.length_append, List.length_map]; rfl
    obtain ⟨m1, -⟩ := msum_map h (by intro e; cases e) (by intro e; cases e) (l := sf a) (sf_cn h.1)
    have e2 : msum (sf (.not a)) = msum (sf a) + (sf a).length * 1 + (1 + 0) := by
      show msum ((sf a).map _ ++ [Cond.not a]) = _
      rw [msum_app, m1]; rfl
    have e3 : nbs (.not a) = nbs a + 1 := rfl
    have e4 : tri (nbs a + 1) = tri (nbs a) + (nbs a + 1) := rfl
    rw [e1, e2, e3, e4]
    omega
  | count k => intro _; exact ⟨show 0 + 1 ≤ 1 by decide, show 0 + 1 ≤ 1 by decide⟩
  | _ => intro h; exact h.elim
theorem nw_few : ∀ {x : Cond}, cn x → (nw x).length ≤ tri (nbs x) ∧ pn (nw x) ≤ tet (nbs x) := by
  intro x
  induction x with
  | or a b iha ihb =>
    intro h
    obtain ⟨a1, a2⟩ := iha h.1
    obtain ⟨b1, b2⟩ := ihb h.2.2.2.1
    have e1 : (nw (.or a b)).length = (nw a).length + (nw b).length + 1 := by
      show (_ :: (nw a ++ nw b)).length = _
      rw [List.length_cons, List.length_append]
    have e2 : pn (nw (.or a b)) = (sumL (.or a b)).length + (pn (nw a) + pn (nw b)) := by
      show nch (.or a b) + pn (nw a ++ nw b) = _
      rw [pn_app]; rfl
    have e3 : nbs (.or a b) = nbs a + nbs b + 1 := rfl
    have e4 : tri (nbs a + nbs b + 1) = tri (nbs a + nbs b) + (nbs a + nbs b + 1) := rfl
    have e4' : tet (nbs a + nbs b + 1) = tet (nbs a + nbs b) + tri (nbs a + nbs b + 1) := rfl
    have e5 := tri_add (nbs a) (nbs b)
    have e6 := tet_add (nbs a) (nbs b)
    have e7 := sumL_nb (.or a b)
    rw [e3] at e7
    rw [e1, e2, e3, e4', e4, e5, e6]
    omega
  | and a b iha ihb =>
    intro h
    obtain ⟨a1, a2⟩ := iha h.1
    obtain ⟨b1, b2⟩ := ihb h.2.2.2.2.1
    obtain ⟨s1, s2⟩ := sf_few h.1
    obtain ⟨m1, m2⟩ := msum_map h.2.2.2.2.1 h.2.2.2.2.2.1 h.2.2.2.2.2.2 (l := sf a) (sf_cn h.1)
    have e1 : (nw (.and a b)).length = (nw a).length + (nw b).length + (sf a).length + 1 := by
      show (_ :: (nw a ++ nw b ++ (sf a).map _)).length = _
      rw [List.length_cons, List.length_append, List.length_append, List.length_map]
    have e2 : pn (nw (.and a b)) = (prodL (.and a b)).length + (pn (nw a) + pn (nw b) + (msum (sf a) + (sf a).length * (prodL b).length)) := by
      show nch (.and a b) + pn (nw a ++ nw b ++ (sf a).map _) = _
      rw [pn_app, pn_app, m2, m1]; rfl
    have e3 : nbs (.and a b) = nbs a + nbs b := rfl
    have e5 := tri_add (nbs a) (nbs b)
    have e6 := tet_add (nbs a) (nbs b)
    have e7 := prodL_nb (.and a b)
    rw [e3] at e7
    have hp := prodL_nb b
    have g1 : ((sf a).length + 1) * nbs b ≤ nbs a * nbs b := Nat.mul_le_mul_right _ s1
    have g1' : (sf a).length * (prodL b).length ≤ (sf a).length * nbs b := Nat.mul_le_mul_left _ hp
    rw [Nat.succ_mul] at g1
    have g2 : nbs a * nbs b ≤ nbs a * tri (nbs b) := Nat.mul_le_mul_left _ (tri_ge _)
    have g3 : 1 * tri (nbs a) ≤ nbs b * tri (nbs a) := Nat.mul_le_mul_right _ (nbs_1 b)
    have g4 : nbs a * 1 ≤ nbs a * nbs b := Nat.mul_le_mul_left _ (nbs_1 b)
    rw [e1, e2, e3, e5, e6]
    omega
  | not a iha =>
    intro h
    obtain ⟨a1, a2⟩ := iha h.1
    obtain ⟨s1, s2⟩ := sf_few h.1
    obtain ⟨m1, m2⟩ := msum_map h (by intro e; cases e) (by intro e; cases e) (l := sf a) (sf_cn h.1)
    have e1 : (nw (.not a)).length = (nw a).length + (sf a).length + 1 := by
      show (_ :: (nw a ++ (sf a).map _)).length = _
      rw [List.length_cons, List.length_append, List.length_map]
    have e2 : pn (nw (.not a)) = 1 + (pn (nw a) + (msum (sf a) + (sf a).length * 1)) := by
      show nch (.not a) + pn (nw a ++ (sf a).map _) = _
      rw [pn_app, m2, m1]; rfl
    have e3 : nbs (.not a) = nbs a + 1 := rfl
    have e4 : tri (nbs a + 1) = tri (nbs a) + (nbs a + 1) := rfl
    have e4' : tet (nbs a + 1) = tet (nbs a) + tri (nbs a + 1) := rfl
    rw [e1, e2, e3, e4', e4]
    omega
  | count k =>
    intro h
    refine ⟨Nat.le_refl _, ?_⟩
    show nch (.count k) + 0 ≤ 1
    have := nch_z (y := .count k) h
    have e : z0 (.count k) = 1 := rfl
    omega
  | _ => intro h; exact h.elim
theorem tri_mono {m n : Nat} (h : m ≤ n) : tri m ≤ tri n := by
  have := tri_add m (n - m)
  rw [show m + (n - m) = n by omega] at this
  omega
theorem tet_mono {m n : Nat} (h : m ≤ n) : tet m ≤ tet n := by
  have := tet_add m (n - m)
  rw [show m + (n - m) = n by omega] at this
  omega
theorem nw_30 {x : Cond} (cx : cn x) (hx : z0 x ≤ 30) : (nw x).length ≤ 465 ∧ pn (nw x) ≤ 4960 := by
  have h1 := nw_few cx
  have h2 := nbs_z cx
  have h3 := tri_mono (show nbs x ≤ 30 by omega)
  have h4 := tet_mono (show nbs x ≤ 30 by omega)
  have e1 : tri 30 = 465 := by decide
  have e2 : tet 30 = 4960 := by decide
  omega
theorem qA_8 {m : Nat} (h : 1 ≤ m) : 8 * m ≤ qA m := by
  have := qA_add 1 (Nat.le_refl _) (m - 1)
  rw [show 1 + (m - 1) = m by omega] at this
  have e : qA 1 = 15 := by decide
  omega
theorem sf_size : ∀ {x : Cond}, cn x → ∀ y ∈ sf x, 8 * z1 y ≤ qA (z0 x) ∧ (isStar x = false → 8 * z1 y ≤ qA (z0 x - 1) + 8) := by
  intro x
  induction x with
  | or a b iha ihb =>
    intro h y hy
    have ha := z01 h.1
    have hb := z01 h.2.2.2.1
    have key : 8 * z1 y ≤ qA (z0 (.or a b) - 1) := by
      rw [(z_or a b).1]
      rcases List.mem_append.mp hy with q | q
      · exact Nat.le_trans (iha h.1 y q).1 (qA_mono (by omega))
      · exact Nat.le_trans (ihb h.2.2.2.1 y q).1 (qA_mono (by omega))
    exact ⟨Nat.le_trans key (qA_mono (by omega)), fun _ => by omega⟩
  | and a b iha ihb =>
    intro h y hy
    have ha := z01 h.1
    have hb := z01 h.2.2.2.2.1
    have key : 8 * z1 y ≤ qA (z0 (.and a b) - 1) + 8 := by
      rw [(z_and a b).1]
      rcases List.mem_append.mp hy with q | q
      · obtain ⟨u, hu, rfl⟩ := List.mem_map.mp q
        have hc := sf_cn h.1 u hu
        have h1 := z_pj hc.1 hc.2.1 h.2.2.2.2.1 h.2.2.2.2.2.1
        have h2 := (iha h.1 u hu).1
        have h3 := qA_add (z0 a) ha.1 (z1 b - 1)
        have h4 := qA_mono (show z0 a + (z1 b - 1) ≤ z1 a + z1 b - 1 by omega)
        show 8 * z1 (pj u b) ≤ _
        omega
      · rcases List.mem_cons.mp q with rfl | q
        · have h1 := qA_8 (m := z1 y) (by omega)
          have h4 := qA_mono (show z1 y ≤ z1 a + z1 y - 1 by omega)
          omega
        · have h2 := (ihb h.2.2.2.2.1 y q).1
          have h4 := qA_mono (show z0 b ≤ z1 a + z1 b - 1 by omega)
          omega
    refine ⟨?_, fun _ => key⟩
    have hn : 2 ≤ z0 (.and a b) := by rw [(z_and a b).1]; omega
    have e : qA (z0 (.and a b)) = qA (z0 (.and a b) - 1) + (2 * (z0 (.and a b) - 1) + 7) := by
      obtain ⟨n, hn⟩ : ∃ n, z0 (.and a b) = n + 1 := ⟨z0 (.and a b) - 1, by omega⟩
      rw [hn]; rfl
    omega
  | not a iha =>
    intro h y hy
    refine ⟨?_, fun e => by cases e⟩
    rcases List.mem_append.mp hy with q | q
    · obtain ⟨u, hu, rfl⟩ := List.mem_map.mp q
      have hc := sf_cn h.1 u hu
      have h1 := z_pj hc.1 hc.2.1 h (by intro e; cases e)
      have h2 := (iha h.1 u hu).2 h.2.1
      have ha := z01 h.1
      show 8 * z1 (pj u (.not a)) ≤ _
      rw [(z_not a).2] at h1
      rw [(z_not a).1]
      have big : z2 a = z0 a + 2 → 8 * z1 (pj u (.not a)) ≤ qA (z2 a + 1) := by
        intro hz
        obtain ⟨q, hq⟩ : ∃ q, z0 a = q + 1 := ⟨z0 a - 1, by omega⟩
        rw [hq] at h2 hz
        rw [hz]
        have e : qA (q + 1 + 2 + 1) = qA q + (2 * q + 7) + (2 * (q + 1) + 7) + (2 * (q + 2) + 7) + (2 * (q + 3) + 7) := rfl
        rw [e]
        have : q + 1 - 1 = q := by omega
        rw [this] at h2
        omega
      cases a with
      | count k => cases hu
      | or c d => exact big (by rw [(z_or c d).2.2, (z_or c d).1])
      | and c d => exact big (by rw [(z_and c d).2.2, (z_and c d).1])
      | not c => exact absurd h.2.1 (by show ¬ true = false; decide)
      | _ => exact h.1.elim
    · rw [List.mem_singleton.mp q, (z_not a).2, (z_not a).1]
      exact qA_8 (by omega)
  | _ => intro h y hy; cases hy
theorem sf_136 {x y : Cond} (cx : cn x) (hx : z0 x ≤ 30) (hy : y ∈ sf x) : z1 y ≤ 136 := by
  have h1 := (sf_size cx y hy).1
  have h2 := qA_mono hx
  have : qA 30 = 1088 := by decide
  omega
theorem nw_z1 : ∀ {x : Cond}, cn x → z0 x ≤ 30 → ∀ z ∈ nw x, z1 z ≤ 136 := by
  have self : ∀ {x : Cond}, cn x → z0 x ≤ 30 → z1 x ≤ 136 := by
    intro x cx hx
    have := z12 cx
    omega
  intro x
  induction x with
  | or a b iha ihb =>
    intro h hx z hz
    have e := (z_or a b).1
    rcases List.mem_cons.mp hz with rfl | g
    · exact self h hx
    · rcases List.mem_append.mp g with g | g
      · exact iha h.1 (by omega) z g
      · exact ihb h.2.2.2.1 (by omega) z g
  | and a b iha ihb =>
    intro h hx z hz
    have e := (z_and a b).1
    have ha := z01 h.1
    have hb := z01 h.2.2.2.2.1
    rcases List.mem_cons.mp hz with rfl | g
    · exact self h hx
    · rcases List.mem_append.mp g with g | g
      · rcases List.mem_append.mp g with g | g
        · exact iha h.1 (by omega) z g
        · exact ihb h.2.2.2.2.1 (by omega) z g
      · exact sf_136 h hx (List.mem_append_left _ g)
  | not a iha =>
    intro h hx z hz
    have e := (z_not a).1
    have ha := z01 h.1
    have hb := z12 h.1
    rcases List.mem_cons.mp hz with rfl | g
    · exact self h hx
    · rcases List.mem_append.mp g with g | g
      · exact iha h.1 (by omega) z g
      · exact sf_136 h hx (List.mem_append_left _ g)
  | count k => intro h hx z hz; rw [List.mem_singleton.mp hz]; exact self h hx
  | _ => intro h; exact h.elim
