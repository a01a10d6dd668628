/-! HOW LONG A TERM IS, spelt: at most 136 bytes -/
def z0 (x : Cond) : Nat := (sp x 0).length
def z1 (x : Cond) : Nat := (sp x 1).length
def z2 (x : Cond) : Nat := (sp x 2).length
theorem z_not (a : Cond) : z0 (.not a) = z2 a + 1 ∧ z1 (.not a) = z2 a + 1 := by
  have : (sp a 2 ++ [42]).length = (sp a 2).length + 1 := by rw [List.length_append]; rfl
  exact ⟨this, this⟩
theorem z_or (a b : Cond) : z0 (.or a b) = z0 a + z0 b + 1 ∧ z1 (.or a b) = z0 a + z0 b + 3 ∧ z2 (.or a b) = z0 a + z0 b + 3 := by
  have h1 : (sp a 0 ++ 43 :: sp b 0).length = (sp a 0).length + (sp b 0).length + 1 := by rw [List.length_append, List.length_cons]; omega
  have h2 : (40 :: (sp a 0 ++ 43 :: sp b 0 ++ [41]) : List Int32).length = (sp a 0).length + (sp b 0).length + 3 := by simp only [List.length_append, List.length_cons, List.length_nil]; omega
  exact ⟨h1, h2, h2⟩
theorem z_and (a b : Cond) : z0 (.and a b) = z1 a + z1 b ∧ z1 (.and a b) = z1 a + z1 b ∧ z2 (.and a b) = z1 a + z1 b + 2 := by
  have h1 : (sp a 1 ++ sp b 1).length = (sp a 1).length + (sp b 1).length := List.length_append
  have h2 : (40 :: (sp a 1 ++ sp b 1 ++ [41]) : List Int32).length = (sp a 1).length + (sp b 1).length + 2 := by simp only [List.length_append, List.length_cons, List.length_nil]
  exact ⟨h1, h1, h2⟩
theorem z01 : ∀ {x : Cond}, cn x → 1 ≤ z0 x ∧ z0 x ≤ z1 x := by
  intro x
  induction x with
  | count k => intro _; exact ⟨Nat.le_refl _, Nat.le_refl _⟩
  | or a b _ _ => intro _; rw [(z_or a b).1, (z_or a b).2.1]; omega
  | and a b iha _ => intro h; rw [(z_and a b).1, (z_and a b).2.1]; have := iha h.1; omega
  | not a _ => intro _; rw [(z_not a).1, (z_not a).2]; omega
  | _ => intro h; exact h.elim
def zs : List Cond → Nat
  | [] => 0
  | x :: l => z1 x + zs l
theorem zs_app : ∀ (l m : List Cond), zs (l ++ m) = zs l + zs m
  | [], m => by rw [List.nil_append]; show _ = 0 + _; omega
  | x :: l, m => by rw [List.cons_append]; show z1 x + zs (l ++ m) = z1 x + zs l + zs m; rw [zs_app l m]; omega
theorem zs_mkP : ∀ (l : List Cond), z1 (mkP l) ≤ zs l + 1 ∧ (l ≠ [] → z1 (mkP l) = zs l)
  | [] => ⟨Nat.le_refl _, fun h => absurd rfl h⟩
  | [x] => ⟨by show z1 x ≤ z1 x + 0 + 1; omega, fun _ => rfl⟩
  | x :: y :: l => by
    have := (zs_mkP (y :: l)).2 (List.cons_ne_nil _ _)
    have e : z1 (mkP (x :: y :: l)) = zs (x :: y :: l) := by
      show z1 (.and x (mkP (y :: l))) = z1 x + zs (y :: l)
      rw [(z_and _ _).2.1, this]
    exact ⟨by omega, fun _ => e⟩
theorem zs_prodL {x : Cond} (cx : cn x) : zs (prodL x) ≤ z1 x := by
  by_cases h1 : x = S1
  · rw [h1, prodL_S1]; exact Nat.zero_le _
  · have := (zs_mkP (prodL x)).2 (prodL_ne h1)
    rw [mkP_prodL cx] at this
    omega
theorem z_pj {x y : Cond} (cx : cn x) (hx : x ≠ S0) (cy : cn y) (hy : y ≠ S0) : z1 (pj x y) ≤ z1 x + z1 y := by
  rw [pj_eq hx hy]
  have h1 := zs_prodL cx
  have h2 := zs_prodL cy
  have h3 := z01 cx
  have e := zs_app (prodL x) (prodL y)
  by_cases hn : prodL x ++ prodL y = []
  · rw [hn]; show 1 ≤ _; omega
  · rw [(zs_mkP _).2 hn, e]; omega
/-- (n + 2) (n + 4) -/
def qA : Nat → Nat
  | 0 => 8
  | n + 1 => qA n + (2 * n + 7)
theorem qA_add (m : Nat) (hm : 1 ≤ m) : ∀ j, qA m + 8 * j ≤ qA (m + j)
  | 0 => Nat.le_refl _
  | j + 1 => by
    have := qA_add m hm j
    show _ ≤ qA (m + j) + (2 * (m + j) + 7)
    omega
theorem qA_le {m : Nat} : ∀ j, qA m ≤ qA (m + j)
  | 0 => Nat.le_refl _
  | j + 1 => by
    have := qA_le (m := m) j
    show _ ≤ qA (m + j) + (2 * (m + j) + 7)
    omega
theorem qA_mono {m n : Nat} (h : m ≤ n) : qA m ≤ qA n := by
  have := qA_le (m := m) (n - m)
  rw [show m + (n - m) = n by omega] at this
  exact this
theorem dp_size : ∀ {x : Cond}, cn x → ∀ y ∈ dp x, 8 * z1 y ≤ qA (z0 x) ∧ (isStar x = false → 8 * z1 y ≤ qA (z0 x - 1) + 8) := by
  intro x
  induction x with
  | count k =>
    intro h y hy
    unfold dp at hy
    split at hy
    · rw [List.mem_singleton.mp hy]
      exact ⟨show 8 * 1 ≤ qA 1 by decide, fun _ => show 8 * 1 ≤ qA 0 + 8 by decide⟩
    · cases hy
  | or a b iha ihb =>
    intro h y hy
    have ha := z01 h.1
    have hb := z01 h.2.2.2.1
    have key : 8 * z1 y ≤ qA (z0 (.or a b) - 1) := by
      rw [(z_or a b).1]
      rcases List.mem_append.mp hy with q | q
      · exact Nat.le_trans (iha h.1 y q).1 (qA_mono (by omega))
      · exact Nat.le_trans (ihb h.2.2.2.1 y q).1 (qA_mono (by omega))
    exact ⟨Nat.le_trans key (qA_mono (by omega)), fun _ => by omega⟩
  | and a b iha ihb =>
    intro h y hy
    have ha := z01 h.1
    have hb := z01 h.2.2.2.2.1
    have key : 8 * z1 y ≤ qA (z0 (.and a b) - 1) + 8 := by
      rw [(z_and a b).1]
      rcases List.mem_append.mp hy with q | q
      · obtain ⟨u, hu, rfl⟩ := List.mem_map.mp q
        have hc := dp_cn h.1 u hu
        have h1 := z_pj hc.1 hc.2 h.2.2.2.2.1 h.2.2.2.2.2.1
        have h2 := (iha h.1 u hu).1
        have h3 := qA_add (z0 a) ha.1 (z1 b - 1)
        have h4 := qA_mono (show z0 a + (z1 b - 1) ≤ z1 a + z1 b - 1 by omega)
        show 8 * z1 (pj u b) ≤ _
        omega
      · have h2 := (ihb h.2.2.2.2.1 y q).1
        have h4 := qA_mono (show z0 b ≤ z1 a + z1 b - 1 by omega)
        omega
    refine ⟨?_, fun _ => key⟩
    have hn : 2 ≤ z0 (.and a b) := by rw [(z_and a b).1]; omega
    have e : qA (z0 (.and a b)) = qA (z0 (.and a b) - 1) + (2 * (z0 (.and a b) - 1) + 7) := by
      obtain ⟨n, hn⟩ : ∃ n, z0 (.and a b) = n + 1 := ⟨z0 (.and a b) - 1, by omega⟩
      rw [hn]; rfl
    omega
  | not a iha =>
    intro h y hy
    refine ⟨?_, fun e => by cases e⟩
    obtain ⟨u, hu, rfl⟩ := List.mem_map.mp hy
    have hc := dp_cn h.1 u hu
    have h1 := z_pj hc.1 hc.2 h (by intro e; cases e)
    have h2 := (iha h.1 u hu).2 h.2.1
    have ha := z01 h.1
    show 8 * z1 (pj u (.not a)) ≤ _
    rw [(z_not a).2] at h1
    rw [(z_not a).1]
    have big : z2 a = z0 a + 2 → 8 * z1 (pj u (.not a)) ≤ qA (z2 a + 1) := by
      intro hz
      obtain ⟨q, hq⟩ : ∃ q, z0 a = q + 1 := ⟨z0 a - 1, by omega⟩
      rw [hq] at h2 hz
      rw [hz]
      have e : qA (q + 1 + 2 + 1) = qA q + (2 * q + 7) + (2 * (q + 1) + 7) + (2 * (q + 2) + 7) + (2 * (q + 3) + 7) := rfl
      rw [e]
      have : q + 1 - 1 = q := by omega
      rw [this] at h2
      omega
    cases a with
    | count k =>
      have hk : z2 (.count k) = 1 := rfl
      have hk0 : z0 (.count k) = 1 := rfl
      rw [hk] at h1 ⊢
      rw [hk0] at h2
      have e : qA (1 + 1) = 24 := rfl
      have e0 : qA (1 - 1) = 8 := rfl
      rw [e0] at h2
      rw [e]
      have hu1 : u = S1 := by
        have : u ∈ (if 2 ≤ k then [S1] else []) := hu
        split at this
        · exact List.mem_singleton.mp this
        · cases this
      have : z1 u = 1 := by rw [hu1]; rfl
      omega
    | or c d => exact big (by rw [(z_or c d).2.2, (z_or c d).1])
    | and c d => exact big (by rw [(z_and c d).2.2, (z_and c d).1])
    | not c => exact absurd h.2.1 (by show ¬ true = false; decide)
    | _ => exact h.1.elim
  | _ => intro h; exact h.elim
theorem dp_136 {x y : Cond} (cx : cn x) (hx : z0 x ≤ 30) (hy : y ∈ dp x) : z1 y ≤ 136 := by
  have h1 := (dp_size cx y hy).1
  have h2 := qA_mono hx
  have : qA 30 = 1088 := by decide
  omega
theorem tms_136 {x y : Cond} (cx : cn x) (hx : z0 x ≤ 30) (hy : y ∈ tms x) : z0 y ≤ 136 := by
  have hl : lts x ≤ 31 := Nat.le_trans (lts_sp x 0) (by have : (sp x 0).length ≤ 30 := hx; omega)
  rcases (tms_all cx hl).2.1 y hy with rfl | q
  · omega
  · have := dp_136 cx hx q
    have := z01 (dp_cn cx y q).1
    omega
theorem tms_31 {x : Cond} (cx : cn x) (hx : z0 x ≤ 30) : (tms x).length ≤ 31 := by
  have h1 := lts_sp x 0
  have h2 : (sp x 0).length ≤ 30 := hx
  have := tmI_len (tms_all cx (by omega))
  omega
