/-! HOW LONG IS WHAT IS READ -/
def wL : List Cond → Nat
  | [] => 0
  | x :: l => z0 x + 1 + wL l
def wP : List Cond → Nat
  | [] => 0
  | x :: l => z2 x + wP l
def wBl : List (List Cond × List Cond) → Nat
  | [] => 0
  | q :: bl => wL q.1 + wP q.2 + 1 + wBl bl
theorem wL_app : ∀ (l m : List Cond), wL (l ++ m) = wL l + wL m
  | [], m => by rw [List.nil_append]; show _ = 0 + _; omega
  | x :: l, m => by rw [List.cons_append]; show z0 x + 1 + wL (l ++ m) = z0 x + 1 + wL l + wL m; rw [wL_app l m]; omega
theorem wP_app : ∀ (l m : List Cond), wP (l ++ m) = wP l + wP m
  | [], m => by rw [List.nil_append]; show _ = 0 + _; omega
  | x :: l, m => by rw [List.cons_append]; show z2 x + wP (l ++ m) = z2 x + wP l + wP m; rw [wP_app l m]; omega
theorem wL_one (x : Cond) : wL [x] = z0 x + 1 := rfl
theorem wP_one (x : Cond) : wP [x] = z2 x := rfl
theorem z2_1 {x : Cond} (cx : cn x) : 1 ≤ z2 x := by
  have := z01 cx
  have := z12 cx
  omega
theorem wP_flat : ∀ {ps : List Cond}, (∀ x ∈ ps, cn x) → zs (ps.flatMap prodL) ≤ wP ps ∧ (ps.flatMap prodL).length ≤ wP ps ∧ ps.length ≤ wP ps
  | [], _ => ⟨Nat.le_refl _, Nat.le_refl _, Nat.le_refl _⟩
  | x :: ps, h => by
    have ih := wP_flat (ps := ps) (fun y hy => h y (List.mem_cons_of_mem _ hy))
    have cx := h x List.mem_cons_self
    have h1 := zs_prodL cx
    have h2 := z12 cx
    have h3 := sh_z cx
    have h4 := z01 cx
    rw [List.flatMap_cons, zs_app, List.length_append, List.length_cons]
    show _ ≤ z2 x + wP ps ∧ _ ≤ z2 x + wP ps ∧ _ ≤ z2 x + wP ps
    omega
theorem z_sProd {ps : List Cond} (h : ∀ x ∈ ps, cn x) (hn : ps ≠ []) : z1 (sProd ps) ≤ wP ps := by
  have hf := wP_flat h
  have h1 : 1 ≤ wP ps := by
    cases ps with
    | nil => exact absurd rfl hn
    | cons x l =>
      have := z2_1 (h x List.mem_cons_self)
      show 1 ≤ z2 x + wP l
      omega
  unfold sProd
  split
  · exact h1
  · by_cases e : ps.flatMap prodL = []
    · rw [e]; exact h1
    · rw [(zs_mkP _).2 e]; exact hf.1
theorem wL_sumL : ∀ {x : Cond}, cn x → wL (sumL x) ≤ z0 x + 1 := by
  intro x
  induction x with
  | or a b _ ihb =>
    intro h
    have := ihb h.2.2.2.1
    rw [sumL_or, (z_or a b).1]
    show z0 a + 1 + wL (sumL b) ≤ _
    omega
  | count k =>
    intro _
    show wL (if Cond.count k = S0 then [] else [Cond.count k]) ≤ _
    split
    · exact Nat.zero_le _
    · exact Nat.le_refl _
  | not a _ => intro _; exact Nat.le_refl _
  | and a b _ _ => intro _; exact Nat.le_refl _
  | _ => intro h; exact h.elim
theorem wL_ddp : ∀ {l acc : List Cond}, wL (ddp acc l) ≤ wL acc + wL l
  | [], acc => Nat.le_refl _
  | x :: l, acc => by
    rw [ddp_cons]
    have e : wL (x :: l) = z0 x + 1 + wL l := rfl
    rw [e]
    split
    · have := wL_ddp (l := l) (acc := acc); omega
    · have := wL_ddp (l := l) (acc := acc ++ [x]); rw [wL_app, wL_one] at this; omega
theorem wL_flat : ∀ {l : List Cond}, (∀ x ∈ l, cn x) → wL (l.flatMap sumL) ≤ wL l ∧ (l.flatMap sumL).length ≤ wL l ∧ 2 * l.length ≤ wL l
  | [], _ => ⟨Nat.le_refl _, Nat.le_refl _, Nat.le_refl _⟩
  | x :: l, h => by
    have ih := wL_flat (l := l) (fun y hy => h y (List.mem_cons_of_mem _ hy))
    have cx := h x List.mem_cons_self
    have h1 := wL_sumL cx
    have h3 := sh_z cx
    have h4 := z01 cx
    rw [List.flatMap_cons, wL_app, List.length_append, List.length_cons]
    show _ ≤ z0 x + 1 + wL l ∧ _ ≤ z0 x + 1 + wL l ∧ _ ≤ z0 x + 1 + wL l
    omega
theorem z_mkS : ∀ {l : List Cond}, l ≠ [] → z0 (mkS l) + 1 ≤ wL l
  | [], h => absurd rfl h
  | [x], _ => Nat.le_refl _
  | x :: y :: l, _ => by
    have := z_mkS (l := y :: l) (List.cons_ne_nil _ _)
    show z0 (.or x (mkS (y :: l))) + 1 ≤ z0 x + 1 + wL (y :: l)
    rw [(z_or _ _).1]
    omega
theorem z_sSum {l : List Cond} (h : ∀ x ∈ l, cn x) (hn : l ≠ []) : z0 (sSum l) + 1 ≤ wL l := by
  have hf := wL_flat h
  have h2 : 2 ≤ wL l := by
    cases l with
    | nil => exact absurd rfl hn
    | cons x l =>
      have := z01 (h x List.mem_cons_self)
      show 2 ≤ z0 x + 1 + wL l
      omega
  have h3 := wL_ddp (l := l.flatMap sumL) (acc := [])
  have e0 : wL [] = 0 := rfl
  unfold sSum
  by_cases e : ddp [] (l.flatMap sumL) = []
  · rw [e]; exact h2
  · have := z_mkS e
    omega
theorem z_sStar {x : Cond} (cx : cn x) : z2 (sStar x) ≤ z2 x + 1 := by
  unfold sStar
  split
  · have := z2_1 cx
    show 1 ≤ _
    omega
  · split
    · omega
    · rw [z_not2]; omega
/-- what holds while a text is read, k bytes of it so far -/
def rI (k : Nat) (ss ps : List Cond) (bl : List (List Cond × List Cond)) (m : Bool) : Prop := (∀ x ∈ ss, cn x) ∧ (∀ x ∈ ps, cn x) ∧ (∀ q ∈ bl, (∀ x ∈ q.1, cn x) ∧ ∀ x ∈ q.2, cn x) ∧ (m = false → ps ≠ []) ∧ wL ss + wP ps + wBl bl ≤ k
section RIS
variable {k : Nat} {ss ps : List Cond} {bl : List (List Cond × List Cond)} {m : Bool}
theorem rI_blank (h : rI k ss ps bl m) : rI (k + 1) ss ps bl m := ⟨h.1, h.2.1, h.2.2.1, h.2.2.2.1, by have := h.2.2.2.2; omega⟩
theorem mem_snoc {l : List Cond} {x : Cond} (h : ∀ y ∈ l, cn y) (hx : cn x) : ∀ y ∈ l ++ [x], cn y := fun y hy => by
  rcases List.mem_append.mp hy with q | q
  · exact h y q
  · rw [List.mem_singleton.mp q]; exact hx
theorem rI_at {a : Nat} (ha : a < 5) (h : rI k ss ps bl m) : rI (k + 1) ss (ps ++ [.count a]) bl false := by
  refine ⟨h.1, mem_snoc h.2.1 ha, h.2.2.1, fun _ e => by simp at e, ?_⟩
  have := h.2.2.2.2
  have e : z2 (.count a) = 1 := rfl
  rw [wP_app, wP_one, e]; omega
theorem rI_open (h : rI k ss ps bl m) : rI (k + 1) [] [] ((ss, ps) :: bl) true := by
  refine ⟨(fun x hx => by cases hx), (fun x hx => by cases hx), fun q hq => ?_, (fun e => by cases e), ?_⟩
  · rcases List.mem_cons.mp hq with rfl | q
    · exact ⟨h.1, h.2.1⟩
    · exact h.2.2.1 _ q
  · have := h.2.2.2.2
    show 0 + 0 + (wL ss + wP ps + 1 + wBl bl) ≤ _
    omega
theorem rI_star (h : rI k ss ps bl false) : rI (k + 1) ss (starL ps) bl false := by
  rcases List.eq_nil_or_concat ps with e | ⟨l, b, e⟩
  · exact absurd e (h.2.2.2.1 rfl)
  · rw [List.concat_eq_append] at e
    subst e
    have hb := h.2.1 b (List.mem_append_right _ List.mem_cons_self)
    have hw := h.2.2.2.2
    have := z_sStar hb
    rw [starL_app]
    refine ⟨h.1, mem_snoc (fun y hy => h.2.1 y (List.mem_append_left _ hy)) (cn_sStar hb), h.2.2.1, fun _ e => by simp at e, ?_⟩
    rw [wP_app, wP_one] at hw ⊢
    omega
theorem rI_prod (h : rI k ss ps bl false) : cn (sProd ps) ∧ z1 (sProd ps) ≤ wP ps := ⟨cn_sProd h.2.1, z_sProd h.2.1 (h.2.2.2.1 rfl)⟩
theorem rI_plus (h : rI k ss ps bl false) : rI (k + 1) (ss ++ [sProd ps]) [] bl true := by
  have hp := rI_prod h
  have h01 := z01 hp.1
  refine ⟨mem_snoc h.1 hp.1, (fun x hx => by cases hx), h.2.2.1, (fun e => by cases e), ?_⟩
  have := h.2.2.2.2
  rw [wL_app, wL_one]
  show _ + 0 + _ ≤ _
  omega
theorem rI_sum (h : rI k ss ps bl false) : cn (sSum (ss ++ [sProd ps])) ∧ z0 (sSum (ss ++ [sProd ps])) ≤ wL ss + wP ps := by
  have hp := rI_prod h
  have h01 := z01 hp.1
  have hm := mem_snoc h.1 hp.1
  have := z_sSum hm (by simp)
  rw [wL_app, wL_one] at this
  exact ⟨(cn_sSum hm).1, by omega⟩
theorem rI_close {q : List Cond × List Cond} (h : rI k ss ps (q :: bl) false) : rI (k + 1) q.1 (q.2 ++ [sSum (ss ++ [sProd ps])]) bl false := by
  have hs := rI_sum h
  have hq := h.2.2.1 q List.mem_cons_self
  have h2 := z12 hs.1
  refine ⟨hq.1, mem_snoc hq.2 hs.1, fun p hp => h.2.2.1 p (List.mem_cons_of_mem _ hp), fun _ e => by simp at e, ?_⟩
  have := h.2.2.2.2
  have e : wBl (q :: bl) = wL q.1 + wP q.2 + 1 + wBl bl := rfl
  rw [e] at this
  rw [wP_app, wP_one]
  omega
end RIS
theorem rI_0 : rI 0 [] [] [] true := ⟨(fun x hx => by cases hx), (fun x hx => by cases hx), (fun x hx => by cases hx), (fun e => by cases e), Nat.le_refl _⟩
theorem atK_lt {c : Int32} {a : Nat} (h : atK c = some a) : a < 5 ∧ c = atB a := by
  unfold atK at h
  by_cases h0 : c = 48
  · rw [if_pos h0] at h; cases h; exact ⟨by decide, h0⟩
  · rw [if_neg h0] at h
    by_cases h1 : c = 49
    · rw [if_pos h1] at h; cases h; exact ⟨by decide, h1⟩
    · rw [if_neg h1] at h
      by_cases h2 : c = 97
      · rw [if_pos h2] at h; cases h; exact ⟨by decide, h2⟩
      · rw [if_neg h2] at h
        by_cases h3 : c = 98
        · rw [if_pos h3] at h; cases h; exact ⟨by decide, h3⟩
        · rw [if_neg h3] at h
          by_cases h4 : c = 99
          · rw [if_pos h4] at h; cases h; exact ⟨by decide, h4⟩
          · rw [if_neg h4] at h; cases h
/-- what is read is kept, and no longer than the text; a fault lies within it -/
theorem rd_size : ∀ (r : List Int32) (k : Nat) (ss ps : List Cond) (bl : List (List Cond × List Cond)) (m : Bool), rI k ss ps bl m → (∀ x, rd r k ss ps bl m = .inr x → cn x ∧ z0 x ≤ k + r.length) ∧ ∀ f, rd r k ss ps bl m = .inl f → f ≤ k + r.length
  | [], k, ss, ps, bl, m, h => by
    unfold rd
    split
    · exact ⟨(fun x hx => by cases hx), (fun f hf => by cases hf; exact Nat.le_refl _)⟩
    · rename_i hm
      have hm' : m = false := by cases m; rfl; exact absurd (Or.inl rfl) hm
      subst hm'
      have := rI_sum h
      have := h.2.2.2.2
      refine ⟨(fun x hx => ?_), (fun f hf => by cases hf)⟩
      cases hx
      exact ⟨(rI_sum h).1, by show _ ≤ k + 0; have := (rI_sum h).2; omega⟩
  | c :: r, k, ss, ps, bl, m, h => by
    have go : ∀ ss' ps' bl' m', rI (k + 1) ss' ps' bl' m' → (∀ x, rd r (k + 1) ss' ps' bl' m' = .inr x → cn x ∧ z0 x ≤ k + (r.length + 1)) ∧ ∀ f, rd r (k + 1) ss' ps' bl' m' = .inl f → f ≤ k + (r.length + 1) := by
      intro ss' ps' bl' m' h'
      have := rd_size r (k + 1) ss' ps' bl' m' h'
      rw [show k + 1 + r.length = k + (r.length + 1) by omega] at this
      exact this
    have bad : (∀ x, (Sum.inl k : Nat ⊕ Cond) = .inr x → cn x ∧ z0 x ≤ k + (r.length + 1)) ∧ ∀ f, (Sum.inl k : Nat ⊕ Cond) = .inl f → f ≤ k + (r.length + 1) := ⟨(fun x hx => by cases hx), (fun f hf => by cases hf; omega)⟩
    rw [List.length_cons]
    unfold rd
    split
    · exact go _ _ _ _ (rI_blank h)
    · cases hc : atK c with
      | some a => exact go _ _ _ _ (rI_at (atK_lt hc).1 h)
      | none =>
        simp only
        split
        · exact go _ _ _ _ (rI_open h)
        · split
          · exact bad
          · rename_i hm
            have hm' : m = false := by cases m; rfl; exact absurd rfl hm
            subst hm'
            split
            · exact go _ _ _ _ (rI_star h)
            · split
              · exact go _ _ _ _ (rI_plus h)
              · split
                · cases bl with
                  | nil => exact bad
                  | cons q bl => exact go _ _ _ _ (rI_close h)
                · exact bad
