/-! SHAPES MADE OF OTHERS, and their drafts -/
def mkX (w : Nat) (A B : Cond) : Cond := if w = 0 then A else if w = 1 then sSum [A, B] else if w = 2 then sProd [A, B] else sStar A
def drf (w : Nat) (A B : Cond) : List Int32 := if w = 0 then sp A 0 else if w = 1 then sp A 0 ++ 43 :: sp B 0 else if w = 2 then 40 :: (sp A 0 ++ 41 :: 40 :: (sp B 0 ++ [41])) else 40 :: (sp A 0 ++ [41, 42])
theorem sSum_one {x : Cond} (cx : cn x) : sSum [x] = x := by
  unfold sSum
  rw [List.flatMap_cons, List.flatMap_nil, List.append_nil, ddp_new (by rw [List.nil_append]; exact sumL_nodup cx), List.nil_append, mkS_sumL cx]
theorem sProd_one {x : Cond} (cx : cn x) : sProd [x] = x := by
  unfold sProd
  by_cases h : S0 ∈ [x]
  · rw [if_pos h]; exact List.mem_singleton.mp h
  · rw [if_neg h, List.flatMap_cons, List.flatMap_nil, List.append_nil, mkP_prodL cx]
theorem flat_init {x : Cond} (cx : cn x) : (initS x ++ [sProd (lastP x)]).flatMap sumL = sumL x := by
  rw [sum_lists cx]
  by_cases h : x = S0
  · rw [if_pos h, h]; rfl
  · rw [if_neg h]
    refine flat_one (fun y hy => ?_)
    have := cn_sumL cx y hy
    exact sumL_one this.2.1 this.2.2
theorem rd_drf {w : Nat} {A B : Cond} (cA : cn A) (cB : cn B) : rd (drf w A B) 0 [] [] [] true = .inr (mkX w A B) := by
  unfold drf mkX
  by_cases h0 : w = 0
  · rw [if_pos h0, if_pos h0]; exact rd_back cA
  · rw [if_neg h0, if_neg h0]
    by_cases h1 : w = 1
    · rw [if_pos h1, if_pos h1, (rd_sp cA).2.2, rd_plus]
      have := (rd_sp cB).2.2 [] (0 + (sp A 0).length + 1) ([] ++ initS A ++ [sProd (lastP A)]) []
      rw [List.append_nil] at this
      rw [this, rd_end]
      congr 1
      unfold sSum
      congr 2
      have e : [] ++ initS A ++ [sProd (lastP A)] ++ initS B ++ [sProd (lastP B)] = (initS A ++ [sProd (lastP A)]) ++ (initS B ++ [sProd (lastP B)]) := by
        rw [List.nil_append, List.append_assoc]
      rw [e, List.flatMap_append, flat_init cA, flat_init cB, List.flatMap_cons, List.flatMap_cons, List.flatMap_nil, List.append_nil]
    · rw [if_neg h1, if_neg h1]
      by_cases h2 : w = 2
      · rw [if_pos h2, if_pos h2, rd_open, (rd_sp cA).2.2, rd_close, rd_open, (rd_sp cB).2.2, rd_close, rd_end]
        show Sum.inr (sSum ([] ++ [sProd (([] ++ [sSum ([] ++ initS A ++ [sProd (lastP A)])]) ++ [sSum ([] ++ initS B ++ [sProd (lastP B)])])])) = _
        rw [List.nil_append, List.nil_append, List.nil_append, List.nil_append, sSum_back cA, sSum_back cB]
        show Sum.inr (sSum [sProd [A, B]]) = _
        rw [sSum_one (cn_sProd (fun x hx => by
          rcases List.mem_cons.mp hx with rfl | hx
          · exact cA
          · rw [List.mem_singleton.mp hx]; exact cB))]
      · rw [if_neg h2, if_neg h2, rd_open, (rd_sp cA).2.2, rd_close, rd_star, rd_end]
        show Sum.inr (sSum ([] ++ [sProd (starL ([] ++ [sSum ([] ++ initS A ++ [sProd (lastP A)])]))])) = _
        rw [List.nil_append, List.nil_append, List.nil_append, sSum_back cA]
        show Sum.inr (sSum [sProd [sStar A]]) = _
        rw [sProd_one (cn_sStar cA), sSum_one (cn_sStar cA)]
theorem drf_len {w : Nat} {A B : Cond} (hA : z0 A ≤ 30) (hB : z0 B ≤ 30) : (drf w A B).length ≤ 64 := by
  have h1 : (sp A 0).length ≤ 30 := hA
  have h2 : (sp B 0).length ≤ 30 := hB
  unfold drf
  split
  · omega
  · split
    · rw [List.length_append, List.length_cons]; omega
    · split
      · rw [List.length_cons, List.length_append, List.length_cons, List.length_cons, List.length_append, List.length_singleton]; omega
      · rw [List.length_cons, List.length_append, List.length_cons, List.length_singleton]; omega
theorem mkX_cn {w : Nat} {A B : Cond} (cA : cn A) (cB : cn B) (hA : z0 A ≤ 30) (hB : z0 B ≤ 30) : cn (mkX w A B) ∧ z0 (mkX w A B) ≤ 64 := by
  have := (rd_size (drf w A B) 0 [] [] [] true rI_0).1 _ (rd_drf cA cB)
  have h := drf_len (w := w) hA hB
  exact ⟨this.1, by omega⟩
theorem dth_mkS {n : Nat} : ∀ {l : List Cond}, (∀ x ∈ l, dth x ≤ n) → dth (mkS l) ≤ n + 1
  | [], _ => Nat.zero_le _
  | [x], h => by have := h x List.mem_cons_self; show dth x ≤ _; omega
  | x :: y :: l, h => by
    have h1 := h x List.mem_cons_self
    have ih := dth_mkS (l := y :: l) (fun z hz => h z (List.mem_cons_of_mem _ hz))
    show max (dth x + 1) (if isSum (mkS (y :: l)) = true then dth (mkS (y :: l)) else dth (mkS (y :: l)) + 1) ≤ n + 1
    cases l with
    | nil =>
      have h2 := h y (List.mem_cons_of_mem _ List.mem_cons_self)
      show max (dth x + 1) (if isSum y = true then dth y else dth y + 1) ≤ n + 1
      split <;> omega
    | cons z l =>
      rw [if_pos (show isSum (mkS (y :: z :: l)) = true from rfl)]
      omega
theorem dth_mkP {n : Nat} : ∀ {l : List Cond}, (∀ x ∈ l, dth x ≤ n) → dth (mkP l) ≤ n + 1
  | [], _ => Nat.zero_le _
  | [x], h => by have := h x List.mem_cons_self; show dth x ≤ _; omega
  | x :: y :: l, h => by
    have h1 := h x List.mem_cons_self
    have ih := dth_mkP (l := y :: l) (fun z hz => h z (List.mem_cons_of_mem _ hz))
    show max (dth x + 1) (if isProd (mkP (y :: l)) = true then dth (mkP (y :: l)) else dth (mkP (y :: l)) + 1) ≤ n + 1
    cases l with
    | nil =>
      have h2 := h y (List.mem_cons_of_mem _ List.mem_cons_self)
      show max (dth x + 1) (if isProd y = true then dth y else dth y + 1) ≤ n + 1
      split <;> omega
    | cons z l =>
      rw [if_pos (show isProd (mkP (y :: z :: l)) = true from rfl)]
      omega
theorem dth_sumL {x : Cond} (cx : cn x) : ∀ f ∈ sumL x, dth f ≤ dth x := by
  intro f hf
  cases h : isSum x with
  | true =>
    have hc : f ∈ chl x := by
      cases x with
      | or a b => exact hf
      | _ => cases h
    have := dth_chl cx f hc
    omega
  | false =>
    by_cases h1 : x = S0
    · rw [h1, sumL_S0] at hf; cases hf
    · rw [sumL_one h h1] at hf
      rw [List.mem_singleton.mp hf]
      exact Nat.le_refl _
theorem mkX_dth {w : Nat} {A B : Cond} (cA : cn A) (cB : cn B) (hA : z0 A ≤ 30) (hB : z0 B ≤ 30) : dth (mkX w A B) ≤ 40 := by
  have dA := dth_z cA
  have dB := dth_z cB
  have two : ∀ (f : Cond → List Cond) (y : Cond), y ∈ [A, B].flatMap f → y ∈ f A ∨ y ∈ f B := fun f y hy => by
    rw [List.flatMap_cons, List.flatMap_cons, List.flatMap_nil, List.append_nil] at hy
    exact List.mem_append.mp hy
  unfold mkX
  split
  · omega
  · split
    · have : dth (sSum [A, B]) ≤ 30 + 1 := dth_mkS (fun y hy => by
        rcases ddp_mem.mp hy with q | q
        · cases q
        · rcases two sumL y q with q | q
          · have := dth_sumL cA y q; omega
          · have := dth_sumL cB y q; omega)
      omega
    · split
      · unfold sProd
        split
        · exact Nat.zero_le _
        · have : dth (mkP ([A, B].flatMap prodL)) ≤ 30 + 1 := dth_mkP (fun y hy => by
            rcases two prodL y hy with q | q
            · have := dth_prodL cA y q; omega
            · have := dth_prodL cB y q; omega)
          omega
      · unfold sStar
        split
        · exact Nat.zero_le _
        · split
          · omega
          · show dth A + 1 ≤ 40; omega
/-- brackets, bytes of what is spelt -/
theorem sp_40 : ∀ {x : Cond}, cn x → ∀ p, 2 * (sp x p).count 40 + 1 ≤ (sp x p).length := by
  intro x
  induction x with
  | count k =>
    intro h p
    show 2 * [atB k].count 40 + 1 ≤ 1
    have hk : k < 5 := h
    rcases (show k = 0 ∨ k = 1 ∨ k = 2 ∨ k = 3 ∨ k = 4 by omega) with rfl | rfl | rfl | rfl | rfl <;> decide
  | not a iha =>
    intro h p
    have := iha h.1 2
    show 2 * (sp a 2 ++ [42]).count 40 + 1 ≤ (sp a 2 ++ [42]).length
    rw [List.count_append, List.length_append, show [(42 : Int32)].count 40 = 0 by decide, List.length_singleton]; omega
  | or a b iha ihb =>
    intro h p
    have h1 := iha h.1 0
    have h2 := ihb h.2.2.2.1 0
    have e1 : (sp a 0 ++ 43 :: sp b 0).count 40 = (sp a 0).count 40 + (sp b 0).count 40 := by
      rw [List.count_append, List.count_cons, if_neg (by decide)]; rfl
    have e2 : (sp a 0 ++ 43 :: sp b 0).length = (sp a 0).length + (sp b 0).length + 1 := by
      rw [List.length_append, List.length_cons]; omega
    show 2 * (if p = 0 then sp a 0 ++ 43 :: sp b 0 else 40 :: (sp a 0 ++ 43 :: sp b 0 ++ [41])).count 40 + 1 ≤ (if p = 0 then sp a 0 ++ 43 :: sp b 0 else 40 :: (sp a 0 ++ 43 :: sp b 0 ++ [41])).length
    split
    · rw [e1, e2]; omega
    · rw [List.count_cons, if_pos (by decide), List.count_append, e1, show [(41 : Int32)].count 40 = 0 by decide, List.length_cons, List.length_append, e2, List.length_singleton]; omega
  | and a b iha ihb =>
    intro h p
    have h1 := iha h.1 1
    have h2 := ihb h.2.2.2.2.1 1
    show 2 * (if p = 2 then 40 :: (sp a 1 ++ sp b 1 ++ [41]) else sp a 1 ++ sp b 1).count 40 + 1 ≤ (if p = 2 then 40 :: (sp a 1 ++ sp b 1 ++ [41]) else sp a 1 ++ sp b 1).length
    split
    · rw [List.count_cons, if_pos (by decide), List.count_append, List.count_append, show [(41 : Int32)].count 40 = 0 by decide, List.length_cons, List.length_append, List.length_append, List.length_singleton]; omega
    · rw [List.count_append, List.length_append]; omega
  | _ => intro h; exact h.elim
theorem sp_n1 : ∀ {x : Cond}, cn x → ∀ p, ∀ c ∈ sp x p, c ≠ -1 := by
  intro x
  induction x with
  | count k =>
    intro h p c hc
    have hk : k < 5 := h
    have hc' : c ∈ [atB k] := hc
    rw [List.mem_singleton.mp hc']
    rcases (show k = 0 ∨ k = 1 ∨ k = 2 ∨ k = 3 ∨ k = 4 by omega) with rfl | rfl | rfl | rfl | rfl <;> decide
  | not a iha =>
    intro h p c hc
    rcases List.mem_append.mp (show c ∈ sp a 2 ++ [42] from hc) with q | q
    · exact iha h.1 2 c q
    · rw [List.mem_singleton.mp q]; decide
  | or a b iha ihb =>
    intro h p c hc
    have in1 : c ∈ sp a 0 ++ 43 :: sp b 0 → c ≠ -1 := fun q => by
      rcases List.mem_append.mp q with q | q
      · exact iha h.1 0 c q
      · rcases List.mem_cons.mp q with q | q
        · rw [q]; decide
        · exact ihb h.2.2.2.1 0 c q
    have hc' : c ∈ (if p = 0 then sp a 0 ++ 43 :: sp b 0 else 40 :: (sp a 0 ++ 43 :: sp b 0 ++ [41])) := hc
    split at hc'
    · exact in1 hc'
    · rcases List.mem_cons.mp hc' with q | q
      · rw [q]; decide
      · rcases List.mem_append.mp q with q | q
        · exact in1 q
        · rw [List.mem_singleton.mp q]; decide
  | and a b iha ihb =>
    intro h p c hc
    have in1 : c ∈ sp a 1 ++ sp b 1 → c ≠ -1 := fun q => by
      rcases List.mem_append.mp q with q | q
      · exact iha h.1 1 c q
      · exact ihb h.2.2.2.2.1 1 c q
    have hc' : c ∈ (if p = 2 then 40 :: (sp a 1 ++ sp b 1 ++ [41]) else sp a 1 ++ sp b 1) := hc
    split at hc'
    · rcases List.mem_cons.mp hc' with q | q
      · rw [q]; decide
      · rcases List.mem_append.mp q with q | q
        · exact in1 q
        · rw [List.mem_singleton.mp q]; decide
    · exact in1 hc'
  | _ => intro h; exact h.elim
theorem drf_n1 {w : Nat} {A B : Cond} (cA : cn A) (cB : cn B) : ∀ c ∈ drf w A B, c ≠ -1 := by
  intro c hc
  have hA := sp_n1 cA 0
  have hB := sp_n1 cB 0
  unfold drf at hc
  split at hc
  · exact hA c hc
  · split at hc
    · rcases List.mem_append.mp hc with q | q
      · exact hA c q
      · rcases List.mem_cons.mp q with q | q
        · rw [q]; decide
        · exact hB c q
    · split at hc
      · rcases List.mem_cons.mp hc with q | q
        · rw [q]; decide
        · rcases List.mem_append.mp q with q | q
          · exact hA c q
          · rcases List.mem_cons.mp q with q | q
            · rw [q]; decide
            · rcases List.mem_cons.mp q with q | q
              · rw [q]; decide
              · rcases List.mem_append.mp q with q | q
                · exact hB c q
                · rw [List.mem_singleton.mp q]; decide
      · rcases List.mem_cons.mp hc with q | q
        · rw [q]; decide
        · rcases List.mem_append.mp q with q | q
          · exact hA c q
          · rcases List.mem_cons.mp q with q | q
            · rw [q]; decide
            · rw [List.mem_singleton.mp q]; decide
theorem drf_40 {w : Nat} {A B : Cond} (cA : cn A) (cB : cn B) (hA : z0 A ≤ 30) (hB : z0 B ≤ 30) : (drf w A B).count 40 ≤ 40 := by
  have h1 := sp_40 cA 0
  have h2 := sp_40 cB 0
  have h3 : (sp A 0).length ≤ 30 := hA
  have h4 : (sp B 0).length ≤ 30 := hB
  unfold drf
  split
  · omega
  · split
    · rw [List.count_append, List.count_cons, if_neg (by decide)]; omega
    · split
      · rw [List.count_cons, if_pos (by decide), List.count_append, List.count_cons, if_neg (by decide), List.count_cons, if_pos (by decide), List.count_append, show [(41 : Int32)].count 40 = 0 by decide]; omega
      · rw [List.count_cons, if_pos (by decide), List.count_append, show [(41 : Int32), 42].count 40 = 0 by decide]; omega
