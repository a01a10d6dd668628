/-! SPELLING AND READING -/
def atB (k : Nat) : Int32 := if k = 0 then 48 else if k = 1 then 49 else if k = 2 then 97 else if k = 3 then 98 else 99
def atK (c : Int32) : Option Nat := if c = 48 then some 0 else if c = 49 then some 1 else if c = 97 then some 2 else if c = 98 then some 3 else if c = 99 then some 4 else none
/-- alone or in a sum 0, in a product 1, under a star 2 -/
def sp : Cond → Nat → List Int32
  | .count k, _ => [atB k]
  | .not a, _ => sp a 2 ++ [42]
  | .or a b, p => if p = 0 then sp a 0 ++ 43 :: sp b 0 else 40 :: (sp a 0 ++ 43 :: sp b 0 ++ [41])
  | .and a b, p => if p = 2 then 40 :: (sp a 1 ++ sp b 1 ++ [41]) else sp a 1 ++ sp b 1
  | _, _ => []
/-- the last factor gets a star -/
def starL : List Cond → List Cond
  | [] => []
  | [x] => [sStar x]
  | x :: y :: l => x :: starL (y :: l)
/-- bytes that are left, place, summands, factors, what is open around; must a factor come? -/
def rd : List Int32 → Nat → List Cond → List Cond → List (List Cond × List Cond) → Bool → Nat ⊕ Cond
  | [], k, ss, ps, bl, m => if m = true ∨ bl ≠ [] then .inl k else .inr (sSum (ss ++ [sProd ps]))
  | c :: r, k, ss, ps, bl, m =>
    if c = 32 then rd r (k + 1) ss ps bl m else
    match atK c with
    | some a => rd r (k + 1) ss (ps ++ [.count a]) bl false
    | none =>
      if c = 40 then rd r (k + 1) [] [] ((ss, ps) :: bl) true
      else if m = true then .inl k
      else if c = 42 then rd r (k + 1) ss (starL ps) bl false
      else if c = 43 then rd r (k + 1) (ss ++ [sProd ps]) [] bl true
      else if c = 41 then match bl with
        | [] => .inl k
        | q :: bl => rd r (k + 1) q.1 (q.2 ++ [sSum (ss ++ [sProd ps])]) bl false
      else .inl k
section RD
variable {r : List Int32} {k : Nat} {ss ps : List Cond} {bl : List (List Cond × List Cond)} {m : Bool}
theorem rd_at {a : Nat} (ha : a < 5) : rd (atB a :: r) k ss ps bl m = rd r (k + 1) ss (ps ++ [.count a]) bl false := by
  rcases (show a = 0 ∨ a = 1 ∨ a = 2 ∨ a = 3 ∨ a = 4 by omega) with rfl | rfl | rfl | rfl | rfl <;> rfl
theorem rd_open : rd (40 :: r) k ss ps bl m = rd r (k + 1) [] [] ((ss, ps) :: bl) true := rfl
theorem rd_star : rd (42 :: r) k ss ps bl false = rd r (k + 1) ss (starL ps) bl false := rfl
theorem rd_plus : rd (43 :: r) k ss ps bl false = rd r (k + 1) (ss ++ [sProd ps]) [] bl true := rfl
theorem rd_close {q : List Cond × List Cond} : rd (41 :: r) k ss ps (q :: bl) false = rd r (k + 1) q.1 (q.2 ++ [sSum (ss ++ [sProd ps])]) bl false := rfl
theorem rd_end : rd [] k ss ps [] false = .inr (sSum (ss ++ [sProd ps])) := rfl
end RD
theorem starL_app : ∀ {ps : List Cond} {a : Cond}, starL (ps ++ [a]) = ps ++ [sStar a]
  | [], a => rfl
  | [x], a => rfl
  | x :: y :: l, a => by
    have := starL_app (ps := y :: l) (a := a)
    rw [List.cons_append, List.cons_append, starL, ← List.cons_append, this]
    rfl
/-- the factors as a text has them -/
def fac (x : Cond) : List Cond := if isProd x = true then prodL x else [x]
theorem fac_prod (x : Cond) (h1 : x ≠ S1) : fac x = prodL x := by
  unfold fac
  split
  · rfl
  · rename_i h
    rw [prodL_one (by simpa using h) h1]
theorem sProd_fac {x : Cond} (h : cn x) : sProd (fac x) = x := by
  unfold fac sProd
  split
  · rename_i hp
    have h0 : x ≠ S0 := by intro e; subst e; cases hp
    have hl := cn_prodL h h0
    rw [if_neg (fun q => (hl _ q).2.2.1 rfl)]
    have : (prodL x).flatMap prodL = prodL x := by
      have go : ∀ l : List Cond, (∀ y ∈ l, prodL y = [y]) → l.flatMap prodL = l := by
        intro l
        induction l with
        | nil => intro _; rfl
        | cons y l ih => intro q; rw [List.flatMap_cons, q y List.mem_cons_self, ih (fun z hz => q z (List.mem_cons_of_mem _ hz))]; rfl
      exact go _ (fun y hy => prodL_one (hl y hy).2.1 (hl y hy).2.2.2)
    rw [this, mkP_prodL h]
  · by_cases h0 : x = S0
    · rw [h0]; rfl
    · rw [if_neg (fun q => h0 (List.mem_singleton.mp q).symm)]
      rw [List.flatMap_cons, List.flatMap_nil, List.append_nil, mkP_prodL h]
/-- a sum, but for its last summand, and the last one's factors -/
def initS : Cond → List Cond
  | .or a b => sProd (fac a) :: initS b
  | _ => []
def lastP : Cond → List Cond
  | .or _ b => lastP b
  | x => fac x
theorem lastP_one {x : Cond} (h : isSum x = false) : lastP x = fac x := by cases x <;> first | rfl | cases h
theorem initS_one {x : Cond} (h : isSum x = false) : initS x = [] := by cases x <;> first | rfl | cases h
theorem sum_lists : ∀ {x : Cond}, cn x → initS x ++ [sProd (lastP x)] = if x = S0 then [S0] else sumL x := by
  intro x
  induction x with
  | or a b _ ihb =>
    intro h
    rw [if_neg (by intro e; cases e), sumL_or]
    show sProd (fac a) :: (initS b ++ [sProd (lastP b)]) = _
    rw [ihb h.2.2.2.1, if_neg h.2.2.2.2.1, sProd_fac h.1]
  | count k =>
    intro h
    rw [initS_one rfl, lastP_one rfl, sProd_fac h]
    by_cases h0 : Cond.count k = S0
    · rw [if_pos h0, h0]; rfl
    · rw [if_neg h0, sumL_one rfl h0]; rfl
  | not a _ =>
    intro h
    rw [initS_one rfl, lastP_one rfl, sProd_fac h, if_neg (by intro e; cases e), sumL_one rfl (by intro e; cases e)]; rfl
  | and a b _ _ =>
    intro h
    rw [initS_one rfl, lastP_one rfl, sProd_fac h, if_neg (by intro e; cases e), sumL_one rfl (by intro e; cases e)]; rfl
  | _ => intro h; exact h.elim
theorem flat_one : ∀ {l : List Cond}, (∀ y ∈ l, sumL y = [y]) → l.flatMap sumL = l
  | [], _ => rfl
  | y :: l, h => by rw [List.flatMap_cons, h y List.mem_cons_self, flat_one (fun z hz => h z (List.mem_cons_of_mem _ hz))]; rfl
theorem sSum_back {x : Cond} (h : cn x) : sSum (initS x ++ [sProd (lastP x)]) = x := by
  rw [sum_lists h]
  by_cases h0 : x = S0
  · rw [if_pos h0, h0]; rfl
  · rw [if_neg h0]
    unfold sSum
    rw [flat_one (fun y hy => sumL_one (cn_sumL h y hy).2.1 (cn_sumL h y hy).2.2), ddp_new (by rw [List.nil_append]; exact sumL_nodup h), List.nil_append, mkS_sumL h]
theorem sp_01 {x : Cond} (h : isSum x = false) : sp x 0 = sp x 1 := by cases x <;> first | rfl | cases h
/-- READING WHAT IS SPELT -/
theorem rd_sp : ∀ {x : Cond}, cn x → (∀ r k ss ps bl m, rd (sp x 1 ++ r) k ss ps bl m = rd r (k + (sp x 1).length) ss (ps ++ fac x) bl false) ∧ (∀ r k ss ps bl m, rd (sp x 2 ++ r) k ss ps bl m = rd r (k + (sp x 2).length) ss (ps ++ [x]) bl false) ∧ ∀ r k ss bl, rd (sp x 0 ++ r) k ss [] bl true = rd r (k + (sp x 0).length) (ss ++ initS x) (lastP x) bl false := by
  intro x
  induction x with
  | count a =>
    intro h
    refine ⟨fun r k ss ps bl m => rd_at h, fun r k ss ps bl m => rd_at h, fun r k ss bl => ?_⟩
    rw [initS_one rfl, List.append_nil]
    exact rd_at h
  | not a iha =>
    intro h
    have ih := (iha h.1).2.1
    have e : sStar a = .not a := by unfold sStar; rw [if_neg (fun q => q.elim h.2.2.1 h.2.2.2), if_neg (by rw [h.2.1]; decide)]
    have key : ∀ r k ss ps bl m, rd (sp (.not a) 1 ++ r) k ss ps bl m = rd r (k + (sp (.not a) 1).length) ss (ps ++ [.not a]) bl false := by
      intro r k ss ps bl m
      show rd (sp a 2 ++ [42] ++ r) k ss ps bl m = rd r (k + (sp a 2 ++ [42]).length) ss _ bl false
      rw [List.append_assoc, ih, List.singleton_append, rd_star, starL_app, e, List.length_append, List.length_singleton, Nat.add_assoc]
    refine ⟨key, key, fun r k ss bl => ?_⟩
    rw [initS_one rfl, List.append_nil]
    exact key r k ss [] bl true
  | and a b iha ihb =>
    intro h
    have ha := (iha h.1).1
    have hb := (ihb h.2.2.2.2.1).1
    have key : ∀ r k ss ps bl m, rd (sp a 1 ++ sp b 1 ++ r) k ss ps bl m = rd r (k + (sp a 1 ++ sp b 1).length) ss (ps ++ fac (.and a b)) bl false := by
      intro r k ss ps bl m
      rw [List.append_assoc, ha, hb, List.length_append, ← Nat.add_assoc, List.append_assoc]
      congr 2
      rw [fac_prod _ h.2.2.2.1, prodL_one h.2.1 h.2.2.2.1, fac_prod _ h.2.2.2.2.2.2, fac_prod (.and a b) (by intro e; cases e), prodL_and]
      rfl
    refine ⟨key, fun r k ss ps bl m => ?_, fun r k ss bl => ?_⟩
    · show rd (40 :: (sp a 1 ++ sp b 1 ++ [41]) ++ r) k ss ps bl m = rd r (k + (40 :: (sp a 1 ++ sp b 1 ++ [41])).length) ss _ bl false
      rw [List.cons_append, rd_open, List.append_assoc, key, List.singleton_append, rd_close, List.nil_append, List.nil_append, sProd_fac h]
      have e : sSum [Cond.and a b] = .and a b := by
        have := sSum_back h
        rw [initS_one rfl, lastP_one rfl, sProd_fac h, List.nil_append] at this
        exact this
      rw [e]
      simp only [List.length_cons, List.length_append, List.length_nil]
      congr 1
      omega
    · rw [initS_one rfl, List.append_nil]
      have := key r k ss [] bl true
      rw [List.nil_append] at this
      exact this
  | or a b iha ihb =>
    intro h
    have ha := (iha h.1).1
    have hb := (ihb h.2.2.2.1).2.2
    have key : ∀ r k ss bl, rd (sp a 0 ++ 43 :: sp b 0 ++ r) k ss [] bl true = rd r (k + (sp a 0 ++ 43 :: sp b 0).length) (ss ++ initS (.or a b)) (lastP (.or a b)) bl false := by
      intro r k ss bl
      rw [List.append_assoc, sp_01 h.2.1, ha, List.nil_append, List.cons_append, rd_plus, hb, List.append_assoc, List.length_append, List.length_cons]
      congr 1
      omega
    have key2 : ∀ r k ss ps bl m, rd (40 :: (sp a 0 ++ 43 :: sp b 0 ++ [41]) ++ r) k ss ps bl m = rd r (k + (40 :: (sp a 0 ++ 43 :: sp b 0 ++ [41])).length) ss (ps ++ [.or a b]) bl false := by
      intro r k ss ps bl m
      rw [List.cons_append, rd_open, List.append_assoc, key, List.singleton_append, rd_close, List.nil_append, sSum_back h]
      simp only [List.length_cons, List.length_append, List.length_nil]
      congr 1
      omega
    exact ⟨key2, key2, key⟩
  | _ => intro h; exact h.elim
theorem rd_back {x : Cond} (h : cn x) : rd (sp x 0) 0 [] [] [] true = .inr x := by
  have := (rd_sp h).2.2 [] 0 [] []
  rw [List.append_nil, rd_end, List.nil_append, sSum_back h] at this
  exact this
