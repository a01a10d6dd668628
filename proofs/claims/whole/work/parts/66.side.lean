/-! WHAT IS KNOWN OF A SIDE, out of its shape -/
def txL (l : List Int32) : txT := (l.length, fun j => l.getD j 0)
def bitI (t : Nat) : Int32 := (1 : Int32) <<< (nI t &&& 31)
def shN : Cond → Nat
  | .count k => if k = 1 then 0 else 1
  | .or a b => min (shN a) (shN b)
  | .and a b => shN a + shN b
  | _ => 0
/-- the shortest word's length -/
def sh (x : Cond) : Int32 := if x = S0 then -1 else nI (shN x)
/-- stars in one another -/
def ns : Cond → Nat
  | .or a b => max (ns a) (ns b)
  | .and a b => max (ns a) (ns b)
  | .not a => ns a + 1
  | _ => 0
theorem full_shN : ∀ {x : Cond}, cn x → x ≠ S0 → (full x = true ↔ shN x = 0) := by
  intro x
  induction x with
  | count k =>
    intro h h0
    show decide (k = 1) = true ↔ (if k = 1 then 0 else 1) = 0
    by_cases hk : k = 1 <;> simp [hk]
  | or a b iha ihb =>
    intro h _
    show (full a || full b) = true ↔ min (shN a) (shN b) = 0
    rw [Bool.or_eq_true, iha h.1 h.2.2.1, ihb h.2.2.2.1 h.2.2.2.2.1]
    omega
  | and a b iha ihb =>
    intro h _
    show (full a && full b) = true ↔ shN a + shN b = 0
    rw [Bool.and_eq_true, iha h.1 h.2.2.1, ihb h.2.2.2.2.1 h.2.2.2.2.2.1]
    omega
  | not a _ => intro _ _; exact ⟨fun _ => rfl, fun _ => rfl⟩
  | _ => intro h; exact h.elim
/-- the terms, spelt one behind the other -/
def catT (T : List Cond) : List Int32 := T.flatMap fun y => sp y 0
/-- the parts of row i: term i / 3, letter i % 3 -/
def rowP (T : List Cond) (i : Nat) : List Cond := pt (T.getD (i / 3) S0) (i % 3)
def setR (T : List Cond) (i : Nat) : Int32 := (rowP T i).foldl (fun a z => a ||| bitI (T.idxOf z)) 0
def fulM (T : List Cond) : Nat → Int32
  | 0 => 0
  | n + 1 => if full (T.getD n S0) = true then fulM T n ||| bitI n else fulM T n
def lenR (T : List Cond) (i : Nat) : Nat := (rowP T i).length
def ptsL (T : List Cond) : Nat → List Int32
  | 0 => []
  | n + 1 => ptsL T n ++ (rowP T n).map fun z => nI (T.idxOf z)
def sdTm (x : Cond) (T : List Cond) : sdT := (txL (sp x 0), (T.length, sh x, nI (ns x), fulM T T.length), txL (catT T), fun i => (catT (T.take (i + 1))).length, setR T, psum (lenR T), fun i => (ptsL T (3 * T.length)).getD i 0)
def sdOf (x : Cond) : sdT := sdTm x (tms x)
/-- this is the side data of a shape that is spelt in at most 30 bytes -/
def gD (D : sdT) : Prop := ∃ x, cn x ∧ z0 x ≤ 30 ∧ D = sdOf x
theorem ptsL_len (T : List Cond) : ∀ n, (ptsL T n).length = psum (lenR T) n
  | 0 => rfl
  | n + 1 => by
    show (ptsL T n ++ (rowP T n).map _).length = psum (lenR T) n + lenR T n
    rw [List.length_append, List.length_map, ptsL_len T n]; rfl
theorem catT_le {m : Nat} : ∀ {T : List Cond}, (∀ y ∈ T, z0 y ≤ m) → (catT T).length ≤ T.length * m
  | [], _ => Nat.zero_le _
  | y :: T, h => by
    have h1 := catT_le (T := T) (fun z hz => h z (List.mem_cons_of_mem _ hz))
    have h2 : (sp y 0).length ≤ m := h y List.mem_cons_self
    show (List.flatMap _ (y :: T)).length ≤ (T.length + 1) * m
    rw [List.flatMap_cons, List.length_append, Nat.add_mul]
    have : (T.flatMap fun y => sp y 0).length ≤ T.length * m := h1
    omega
theorem nd_leP : ∀ {l m : List (Nat × Cond)}, l.Nodup → (∀ x ∈ l, x ∈ m) → l.length ≤ m.length
  | [], m, _, _ => Nat.zero_le _
  | x :: l, m, h, hs => by
    have hn := List.nodup_cons.mp h
    have hx := hs x List.mem_cons_self
    have := nd_leP (l := l) (m := m.erase x) hn.2 (fun y hy => (List.mem_erase_of_ne (show y ≠ x from fun e => hn.1 (by rw [← e]; exact hy))).mpr (hs y (List.mem_cons_of_mem _ hy)))
    rw [List.length_erase_of_mem hx] at this
    have : 0 < m.length := List.length_pos_of_mem hx
    rw [List.length_cons]
    omega
theorem nd_pair {k : Nat} : ∀ {l : List Cond}, l.Nodup → (l.map fun z => (k, z)).Nodup
  | [], _ => List.nodup_nil
  | x :: l, h => by
    have hn := List.nodup_cons.mp h
    rw [List.map_cons]
    refine List.nodup_cons.mpr ⟨fun q => ?_, nd_pair hn.2⟩
    obtain ⟨z, hz, e⟩ := List.mem_map.mp q
    cases e
    exact hn.1 hz
/-- a term has no more parts, over all letters, than there are letters spelt -/
theorem pt_three {x y : Cond} (cx : cn x) (hy : y = x ∨ y ∈ dp x) : (pt y 0).length + (pt y 1).length + (pt y 2).length ≤ lts x := by
  have hq : ∀ l, ∀ z ∈ pt y l, (l, z) ∈ dq x := by
    intro l z hz
    rcases hy with rfl | hd
    · exact dq_pt z hz
    · exact dq_cl cx y hd z hz
  have := nd_leP (l := (pt y 0).map (fun z => (0, z)) ++ ((pt y 1).map (fun z => (1, z)) ++ (pt y 2).map (fun z => (2, z)))) (m := dq x) ?_ ?_
  · rw [dq_len] at this
    simp only [List.length_append, List.length_map] at this
    omega
  · refine List.nodup_append.mpr ⟨nd_pair (pt_nodup _ _), List.nodup_append.mpr ⟨nd_pair (pt_nodup _ _), nd_pair (pt_nodup _ _), ?_⟩, ?_⟩
    · intro a ha b hb e
      obtain ⟨u, -, rfl⟩ := List.mem_map.mp ha
      obtain ⟨v, -, rfl⟩ := List.mem_map.mp hb
      cases e
    · intro a ha b hb e
      obtain ⟨u, -, rfl⟩ := List.mem_map.mp ha
      rcases List.mem_append.mp hb with hb | hb
      · obtain ⟨v, -, rfl⟩ := List.mem_map.mp hb
        cases e
      · obtain ⟨v, -, rfl⟩ := List.mem_map.mp hb
        cases e
  · intro q hq'
    rcases List.mem_append.mp hq' with h | h
    · obtain ⟨u, hu, rfl⟩ := List.mem_map.mp h
      exact hq 0 u hu
    · rcases List.mem_append.mp h with h | h
      · obtain ⟨u, hu, rfl⟩ := List.mem_map.mp h
        exact hq 1 u hu
      · obtain ⟨u, hu, rfl⟩ := List.mem_map.mp h
        exact hq 2 u hu
theorem rows_le {x : Cond} {T : List Cond} (cx : cn x) (hT : ∀ z ∈ T, z = x ∨ z ∈ dp x) : ∀ n, n ≤ T.length → psum (lenR T) (3 * n) ≤ n * lts x
  | 0, _ => Nat.zero_le _
  | n + 1, hn => by
    have ih := rows_le cx hT n (by omega)
    have e : psum (lenR T) (3 * (n + 1)) = psum (lenR T) (3 * n) + lenR T (3 * n) + lenR T (3 * n + 1) + lenR T (3 * n + 2) := rfl
    have hm : T.getD n S0 ∈ T := by
      rw [List.getD_eq_getElem?_getD, List.getElem?_eq_getElem (by omega)]
      exact List.getElem_mem _
    have h3 := pt_three cx (hT _ hm)
    have r0 : lenR T (3 * n) = (pt (T.getD n S0) 0).length := by unfold lenR rowP; rw [show 3 * n / 3 = n by omega, show 3 * n % 3 = 0 by omega]
    have r1 : lenR T (3 * n + 1) = (pt (T.getD n S0) 1).length := by unfold lenR rowP; rw [show (3 * n + 1) / 3 = n by omega, show (3 * n + 1) % 3 = 1 by omega]
    have r2 : lenR T (3 * n + 2) = (pt (T.getD n S0) 2).length := by unfold lenR rowP; rw [show (3 * n + 2) / 3 = n by omega, show (3 * n + 2) % 3 = 2 by omega]
    rw [e, r0, r1, r2, Nat.add_mul]
    omega
theorem lts_30 {x : Cond} (hx : z0 x ≤ 30) : lts x ≤ 30 := Nat.le_trans (lts_sp x 0) hx
theorem gD_sdB : ∀ D, gD D → sdB D := by
  rintro D ⟨x, cx, hx, rfl⟩
  have hl := lts_30 hx
  have hT := tms_all cx (by omega)
  have h31 := tms_31 cx hx
  have h1 : 1 ≤ (tms x).length := by
    have := (List.getElem?_eq_some_iff.mp hT.2.2.2).1
    omega
  refine ⟨hx, h1, h31, ?_, ?_⟩
  · have := catT_le (m := 136) (fun y hy => tms_136 cx hx hy)
    show (catT (tms x)).length ≤ 4960
    omega
  · have h2 := rows_le cx hT.2.1 (tms x).length (Nat.le_refl _)
    have h3 : (tms x).length * lts x ≤ 31 * 30 := Nat.mul_le_mul h31 hl
    show psum (lenR (tms x)) (3 * (tms x).length) ≤ 961
    omega
