/-! THE STEPS, and that each is the machine's. -/
def lo_push (n : Nat) (v : Value) : ll_G := fun ls st σ => some (n, ls, v :: st, σ)
def lo_iload (n i : Nat) : ll_G := fun ls st σ => match ls[i]? with
  | some (.int x) => some (n, ls, .int x :: st, σ)
  | _ => none
def lo_lload (n i : Nat) : ll_G := fun ls st σ => match ls[i]? with
  | some (.long x) => some (n, ls, .long x :: st, σ)
  | _ => none
def lo_aload (n i : Nat) : ll_G := fun ls st σ => match ls[i]? with
  | some (.ref x) => some (n, ls, .ref x :: st, σ)
  | some (.float x) => some (n, ls, .float x :: st, σ)
  | _ => none
/-- the local before is none of two words -/
def ll_no2 (ls : List Value) (i : Nat) : Bool := match i with
  | 0 => true
  | j + 1 => match ls[j]? with
    | some (.long _) => false
    | some (.double _) => false
    | _ => true
def lo_istore (n i : Nat) : ll_G := fun ls st σ => match st with
  | .int x :: r => if i < ls.length ∧ ll_no2 ls i = true then some (n, ls.set i (.int x), r, σ) else none
  | _ => none
def lo_astore (n i : Nat) : ll_G := fun ls st σ => match st with
  | .ref x :: r => if i < ls.length ∧ ll_no2 ls i = true then some (n, ls.set i (.ref x), r, σ) else none
  | _ => none
def lo_iinc (n i : Nat) (k : Int32) : ll_G := fun ls st σ => match ls[i]? with
  | some (.int x) => if ll_no2 ls i = true then some (n, ls.set i (.int (x + k)), st, σ) else none
  | _ => none
def lo_bin (n : Nat) (g : Int32 → Int32 → Int32) : ll_G := fun ls st σ => match st with
  | .int y :: .int x :: r => some (n, ls, .int (g x y) :: r, σ)
  | _ => none
def lo_div (n : Nat) (g : Int32 → Int32 → Int32) : ll_G := fun ls st σ => match st with
  | .int y :: .int x :: r => if y = 0 then none else some (n, ls, .int (g x y) :: r, σ)
  | _ => none
def lo_lbin (n : Nat) (g : Int64 → Int64 → Int64) : ll_G := fun ls st σ => match st with
  | .long y :: .long x :: r => some (n, ls, .long (g x y) :: r, σ)
  | _ => none
def lo_lsh (n : Nat) (g : Int64 → Int32 → Int64) : ll_G := fun ls st σ => match st with
  | .int y :: .long x :: r => some (n, ls, .long (g x y) :: r, σ)
  | _ => none
def lo_i2l (n : Nat) : ll_G := fun ls st σ => match st with
  | .int x :: r => some (n, ls, .long x.toInt64 :: r, σ)
  | _ => none
def lo_l2i (n : Nat) : ll_G := fun ls st σ => match st with
  | .long x :: r => some (n, ls, .int x.toInt32 :: r, σ)
  | _ => none
def lo_lcmp (n : Nat) : ll_G := fun ls st σ => match st with
  | .long y :: .long x :: r => some (n, ls, .int (lg_cmp x y) :: r, σ)
  | _ => none
/-- a value of one word -/
def ll_one (v : Value) : Bool := match v with
  | .int _ => true
  | .ref _ => true
  | .float _ => true
  | .null => true
  | _ => false
def lo_dup (n : Nat) : ll_G := fun ls st σ => match st with
  | v :: r => if ll_one v = true then some (n, ls, v :: v :: r, σ) else none
  | _ => none
def lo_dup2 (n : Nat) : ll_G := fun ls st σ => match st with
  | v :: w :: r => if ll_one v = true ∧ ll_one w = true then some (n, ls, v :: w :: v :: w :: r, σ) else none
  | _ => none
def lo_pop (n : Nat) : ll_G := fun ls st σ => match st with
  | v :: r => if ll_one v = true then some (n, ls, r, σ) else none
  | _ => none
def lo_goto (t : Nat) : ll_G := fun ls st σ => some (t, ls, st, σ)
def lo_if (t n : Nat) (g : Int32 → Bool) : ll_G := fun ls st σ => match st with
  | .int x :: r => if g x = true then some (t, ls, r, σ) else some (n, ls, r, σ)
  | _ => none
def lo_cmp (t n : Nat) (g : Int32 → Int32 → Bool) : ll_G := fun ls st σ => match st with
  | .int y :: .int x :: r => if g x y = true then some (t, ls, r, σ) else some (n, ls, r, σ)
  | _ => none
/-- tableswitch over 0, 1 .. or lo, lo + 1 .. -/
def lo_tab (lo : Int) (ts : List Nat) (d : Nat) : ll_G := fun ls st σ => match st with
  | .int x :: r => if x.toInt < lo then some (d, ls, r, σ) else some (ts.getD (x.toInt - lo).toNat d, ls, r, σ)
  | _ => none
section LK
variable {cc : ByteArray} {own : String} {ini lw : Bool} {L : Nat} {xs : Nat → Int32} {pc : Nat}
/-- steps on the operand stack alone -/
theorem ll_kst {f : ll_G} (h : ∀ (ls st : List Value) (σ : ll_S) (pc' : Nat) (ls' st' : List Value) (σ1 : ll_S), f ls st σ = some (pc', ls', st', σ1) → ls' = ls ∧ σ1 = σ ∧
    ∀ (B : Nat → Prop) (nL : Nat) (p : Program) (l : Launch) (e : Env) (R : Room) (s : State) (m : MethodId) (args : Array Value) (below : List Frame) (meth : Method) (c : Code) (D : va_G) (A : Nat → Prop) (Q : State → Prop),
    ll_X cc nL own ini lw L xs B p R s m args meth c D A → ∀ (adr : List Nat) (mls : Array Slot) (mst : List Value) (H : Heap) (locs : List Loc) (cells slots : Nat), ll_L B adr ls mls nL → ll_st B adr st mst →
      ∃ mst', ll_st B adr st' mst' ∧ (W p l e R s m args below meth c H locs cells slots Q (F0 m pc' mls mst') → W p l e R s m args below meth c H locs cells slots Q (F0 m pc mls mst))) : ll_K cc own ini lw L xs pc f := by
  intro ls st σ pc' ls' st' σ1 hf
  obtain ⟨rfl, rfl, h3⟩ := h ls st σ pc' ls' st' σ1 hf
  refine ⟨⟨Nat.le_refl _, Nat.le_refl _⟩, ?_⟩
  intro B nL p l e R s m args below meth c D A Q cx adr ws mls mst H locs cells slots hW hS hL hst _ _ kk
  obtain ⟨mst', q1, q2⟩ := h3 B nL p l e R s m args below meth c D A Q cx adr mls mst H locs cells slots hL hst
  have k2 := kk adr ws mls mst' H locs ⟨[], by simp⟩ hW hS hL q1
  rw [Nat.sub_self, Nat.sub_self] at k2
  exact q2 k2
theorem lk_iconst {n : Int} {v : Int32} (hd : decode cc pc = .ok (.iconst n, 1)) (hv : Int32.ofInt n = v) : ll_K cc own ini lw L xs pc (lo_push (pc + 1) (.int v)) := by
  refine ll_kst fun ls st σ pc' ls' st' σ1 hf => ?_
  cases hf
  refine ⟨rfl, rfl, fun B nL p l e R s m args below meth c D A Q cx adr mls mst H locs cells slots hL hst => ⟨.int v :: mst, ⟨rfl, hst⟩, fun k => lv_iconst cx.1 cx.2.1 hd hv k⟩⟩
theorem lk_bipush {n : Int} {v : Int32} (hd : decode cc pc = .ok (.bipush n, 2)) (hv : (Int8.ofInt n).toInt32 = v) : ll_K cc own ini lw L xs pc (lo_push (pc + 2) (.int v)) := by
  refine ll_kst fun ls st σ pc' ls' st' σ1 hf => ?_
  cases hf
  refine ⟨rfl, rfl, fun B nL p l e R s m args below meth c D A Q cx adr mls mst H locs cells slots hL hst => ⟨.int v :: mst, ⟨rfl, hst⟩, fun k => lv_bipush cx.1 cx.2.1 hd hv k⟩⟩
theorem lk_sipush {n : Int} {v : Int32} (hd : decode cc pc = .ok (.sipush n, 3)) (hv : (Int16.ofInt n).toInt32 = v) : ll_K cc own ini lw L xs pc (lo_push (pc + 3) (.int v)) := by
  refine ll_kst fun ls st σ pc' ls' st' σ1 hf => ?_
  cases hf
  refine ⟨rfl, rfl, fun B nL p l e R s m args below meth c D A Q cx adr mls mst H locs cells slots hL hst => ⟨.int v :: mst, ⟨rfl, hst⟩, fun k => lv_sipush cx.1 cx.2.1 hd hv k⟩⟩
theorem lk_lconst {n : Fin 2} {v : Int64} (hd : decode cc pc = .ok (.lconst n, 1)) (hv : Int64.ofNat (n : Nat) = v) : ll_K cc own ini lw L xs pc (lo_push (pc + 1) (.long v)) := by
  refine ll_kst fun ls st σ pc' ls' st' σ1 hf => ?_
  cases hf
  refine ⟨rfl, rfl, fun B nL p l e R s m args below meth c D A Q cx adr mls mst H locs cells slots hL hst => ⟨.long v :: mst, ⟨rfl, hst⟩, fun k => lv_lconst cx.1 cx.2.1 hd hv k⟩⟩
theorem lk_ldc {ix : Nat} {v : Int32} (hd : decode cc pc = .ok (.ldc ix, 2)) (hw : ll_tb (.constant own ix v)) : ll_K cc own ini lw L xs pc (lo_push (pc + 2) (.int v)) := by
  refine ll_kst fun ls st σ pc' ls' st' σ1 hf => ?_
  cases hf
  refine ⟨rfl, rfl, fun B nL p l e R s m args below meth c D A Q cx adr mls mst H locs cells slots hL hst => ⟨.int v :: mst, ⟨rfl, hst⟩, fun k => lv_ldc cx.1 cx.2.1 cx.2.2.2.1 (cx.2.2.2.2.1 _ hw) hd k⟩⟩
theorem lk_ldc2 {ix : Nat} {v : Int64} (hd : decode cc pc = .ok (.ldc2_w ix, 3)) (hw : ll_tb (.constantLong own ix v)) : ll_K cc own ini lw L xs pc (lo_push (pc + 3) (.long v)) := by
  refine ll_kst fun ls st σ pc' ls' st' σ1 hf => ?_
  cases hf
  refine ⟨rfl, rfl, fun B nL p l e R s m args below meth c D A Q cx adr mls mst H locs cells slots hL hst => ⟨.long v :: mst, ⟨rfl, hst⟩, fun k => lv_ldc2 cx.1 cx.2.1 cx.2.2.2.1 (cx.2.2.2.2.1 _ hw) hd k⟩⟩
/-- what a local holds -/
theorem ll_L_at {B : Nat → Prop} {adr : List Nat} {ls : List Value} {mls : Array Slot} {nL i : Nat} {v : Value} (h : ll_L B adr ls mls nL) (hi : ls[i]? = some v) (hn : v ≠ .null) : ∃ w, mls[i]? = some (.val w) ∧ ll_v B adr v w := by
  obtain ⟨-, lv, h2, h3⟩ := h
  obtain ⟨w, q1, q2⟩ := h3 i v hi hn
  exact ⟨w, h2.2.2 (i, w) q1, q2⟩
theorem lo_iload_inv {n i : Nat} {ls st : List Value} {σ : ll_S} {r : ll_F} (h : lo_iload n i ls st σ = some r) : ∃ x, ls[i]? = some (.int x) ∧ r = (n, ls, .int x :: st, σ) := by
  unfold lo_iload at h
  split at h
  · rename_i x hx
    exact ⟨x, hx, (Option.some.inj h).symm⟩
  · cases h
theorem lo_lload_inv {n i : Nat} {ls st : List Value} {σ : ll_S} {r : ll_F} (h : lo_lload n i ls st σ = some r) : ∃ x, ls[i]? = some (.long x) ∧ r = (n, ls, .long x :: st, σ) := by
  unfold lo_lload at h
  split at h
  · rename_i x hx
    exact ⟨x, hx, (Option.some.inj h).symm⟩
  · cases h
theorem lo_aload_inv {n i : Nat} {ls st : List Value} {σ : ll_S} {r : ll_F} (h : lo_aload n i ls st σ = some r) : ∃ v, ls[i]? = some v ∧ v ≠ .null ∧ (∀ (B : Nat → Prop) (adr : List Nat) (w : Value), ll_v B adr v w → ∃ a, w = .ref a) ∧ r = (n, ls, v :: st, σ) := by
  unfold lo_aload at h
  split at h
  · rename_i x hx
    exact ⟨.ref x, hx, (fun q => by cases q), fun B adr w q => by obtain ⟨a, -, q2⟩ := q; exact ⟨a, q2⟩, (Option.some.inj h).symm⟩
  · rename_i x hx
    exact ⟨.float x, hx, (fun q => by cases q), fun B adr w q => by obtain ⟨a, -, q2⟩ := q; exact ⟨a, q2⟩, (Option.some.inj h).symm⟩
  · cases h
theorem lk_iload_n {k : Fin 4} {i : Nat} (hd : decode cc pc = .ok (.iload_n k, 1)) (hk : (k : Nat) = i) : ll_K cc own ini lw L xs pc (lo_iload (pc + 1) i) := by
  refine ll_kst fun ls st σ pc' ls' st' σ1 hf => ?_
  obtain ⟨x, hx, he⟩ := lo_iload_inv hf
  cases he
  refine ⟨rfl, rfl, fun B nL p l e R s m args below meth c D A Q cx adr mls mst H locs cells slots hL hst => ?_⟩
  obtain ⟨w, q1, q2⟩ := ll_L_at hL hx (fun q => by cases q)
  rw [show w = .int x from q2] at q1
  exact ⟨.int x :: mst, ⟨rfl, hst⟩, fun k => lv_iload_n cx.1 cx.2.1 hd hk q1 k⟩
theorem lk_iload {i : Nat} (hd : decode cc pc = .ok (.iload i, 2)) : ll_K cc own ini lw L xs pc (lo_iload (pc + 2) i) := by
  refine ll_kst fun ls st σ pc' ls' st' σ1 hf => ?_
  obtain ⟨x, hx, he⟩ := lo_iload_inv hf
  cases he
  refine ⟨rfl, rfl, fun B nL p l e R s m args below meth c D A Q cx adr mls mst H locs cells slots hL hst => ?_⟩
  obtain ⟨w, q1, q2⟩ := ll_L_at hL hx (fun q => by cases q)
  rw [show w = .int x from q2] at q1
  exact ⟨.int x :: mst, ⟨rfl, hst⟩, fun k => lv_iload cx.1 cx.2.1 hd q1 k⟩
theorem lk_lload_n {k : Fin 4} {i : Nat} (hd : decode cc pc = .ok (.lload_n k, 1)) (hk : (k : Nat) = i) : ll_K cc own ini lw L xs pc (lo_lload (pc + 1) i) := by
  refine ll_kst fun ls st σ pc' ls' st' σ1 hf => ?_
  obtain ⟨x, hx, he⟩ := lo_lload_inv hf
  cases he
  refine ⟨rfl, rfl, fun B nL p l e R s m args below meth c D A Q cx adr mls mst H locs cells slots hL hst => ?_⟩
  obtain ⟨w, q1, q2⟩ := ll_L_at hL hx (fun q => by cases q)
  rw [show w = .long x from q2] at q1
  exact ⟨.long x :: mst, ⟨rfl, hst⟩, fun k => lv_lload_n cx.1 cx.2.1 hd hk q1 k⟩
theorem lk_aload_n {k : Fin 4} {i : Nat} (hd : decode cc pc = .ok (.aload_n k, 1)) (hk : (k : Nat) = i) : ll_K cc own ini lw L xs pc (lo_aload (pc + 1) i) := by
  refine ll_kst fun ls st σ pc' ls' st' σ1 hf => ?_
  obtain ⟨v, hx, hn, hr, he⟩ := lo_aload_inv hf
  cases he
  refine ⟨rfl, rfl, fun B nL p l e R s m args below meth c D A Q cx adr mls mst H locs cells slots hL hst => ?_⟩
  obtain ⟨w, q1, q2⟩ := ll_L_at hL hx hn
  obtain ⟨a, rfl⟩ := hr B adr w q2
  exact ⟨.ref a :: mst, ⟨q2, hst⟩, fun k => lv_aload_n cx.1 cx.2.1 hd hk q1 k⟩
theorem lk_aload {i : Nat} (hd : decode cc pc = .ok (.aload i, 2)) : ll_K cc own ini lw L xs pc (lo_aload (pc + 2) i) := by
  refine ll_kst fun ls st σ pc' ls' st' σ1 hf => ?_
  obtain ⟨v, hx, hn, hr, he⟩ := lo_aload_inv hf
  cases he
  refine ⟨rfl, rfl, fun B nL p l e R s m args below meth c D A Q cx adr mls mst H locs cells slots hL hst => ?_⟩
  obtain ⟨w, q1, q2⟩ := ll_L_at hL hx hn
  obtain ⟨a, rfl⟩ := hr B adr w q2
  exact ⟨.ref a :: mst, ⟨q2, hst⟩, fun k => lv_aload cx.1 cx.2.1 hd q1 k⟩
/-- a local is written -/
theorem ll_L_set {B : Nat → Prop} {adr : List Nat} {ls : List Value} {mls mls' : Array Slot} {nL i : Nat} {v w : Value} {lv : List (Nat × Value)} (hl : ls.length = nL) (h3 : ∀ (i : Nat) (v : Value), ls[i]? = some v → v ≠ .null → ∃ w, (i, w) ∈ lv ∧ ll_v B adr v w) (hi : i < ls.length) (hno : ll_no2 ls i = true) (hv : ll_v B adr v w)
    (h' : lv_has mls' nL ((i, w) :: lv.filter (fun q => !(q.1 == i) && !(q.1 + 1 == i && q.2.category == 2)))) : ll_L B adr (ls.set i v) mls' nL := by
  refine ⟨by rw [List.length_set]; exact hl, _, h', fun j u hj hn => ?_⟩
  rw [List.getElem?_set] at hj
  by_cases hij : i = j
  · subst hij
    rw [if_pos rfl, if_pos hi] at hj
    cases hj
    exact ⟨w, List.mem_cons_self, hv⟩
  · rw [if_neg hij] at hj
    obtain ⟨w', q1, q2⟩ := h3 j u hj hn
    refine ⟨w', List.mem_cons_of_mem _ (List.mem_filter.mpr ⟨q1, ?_⟩), q2⟩
    have e1 : (j == i) = false := by simpa using fun q => hij q.symm
    by_cases e2 : j + 1 = i
    · subst e2
      have e3 : (w'.category == 2) = false := by
        simp only [ll_no2, hj] at hno
        cases u with
        | int x => rw [show w' = .int x from q2]; rfl
        | long x => simp at hno
        | float x => obtain ⟨b, -, rfl⟩ := q2; rfl
        | double x => simp at hno
        | null => exact absurd rfl hn
        | ref a => obtain ⟨b, -, rfl⟩ := q2; rfl
        | retAddr a => exact False.elim q2
      simp [e3]
    · simp [e1, e2]
theorem lo_istore_inv {n i : Nat} {ls st : List Value} {σ : ll_S} {r : ll_F} (h : lo_istore n i ls st σ = some r) : ∃ x rest, st = .int x :: rest ∧ i < ls.length ∧ ll_no2 ls i = true ∧ r = (n, ls.set i (.int x), rest, σ) := by
  unfold lo_istore at h
  split at h
  · rename_i x rest
    split at h
    · rename_i hc
      exact ⟨x, rest, rfl, hc.1, hc.2, (Option.some.inj h).symm⟩
    · cases h
  · cases h
theorem lo_astore_inv {n i : Nat} {ls st : List Value} {σ : ll_S} {r : ll_F} (h : lo_astore n i ls st σ = some r) : ∃ x rest, st = .ref x :: rest ∧ i < ls.length ∧ ll_no2 ls i = true ∧ r = (n, ls.set i (.ref x), rest, σ) := by
  unfold lo_astore at h
  split at h
  · rename_i x rest
    split at h
    · rename_i hc
      exact ⟨x, rest, rfl, hc.1, hc.2, (Option.some.inj h).symm⟩
    · cases h
  · cases h
theorem lo_iinc_inv {n i : Nat} {k : Int32} {ls st : List Value} {σ : ll_S} {r : ll_F} (h : lo_iinc n i k ls st σ = some r) : ∃ x, ls[i]? = some (.int x) ∧ ll_no2 ls i = true ∧ r = (n, ls.set i (.int (x + k)), st, σ) := by
  unfold lo_iinc at h
  split at h
  · rename_i x hx
    split at h
    · rename_i hc
      exact ⟨x, hx, hc, (Option.some.inj h).symm⟩
    · cases h
  · cases h
/-- steps on locals and operand stack -/
theorem ll_kls {f : ll_G} (h : ∀ (ls st : List Value) (σ : ll_S) (pc' : Nat) (ls' st' : List Value) (σ1 : ll_S), f ls st σ = some (pc', ls', st', σ1) → σ1 = σ ∧
    ∀ (B : Nat → Prop) (nL : Nat) (p : Program) (l : Launch) (e : Env) (R : Room) (s : State) (m : MethodId) (args : Array Value) (below : List Frame) (meth : Method) (c : Code) (D : va_G) (A : Nat → Prop) (Q : State → Prop),
    ll_X cc nL own ini lw L xs B p R s m args meth c D A → ∀ (adr : List Nat) (mls : Array Slot) (mst : List Value) (H : Heap) (locs : List Loc) (cells slots : Nat), ll_L B adr ls mls nL → ll_st B adr st mst →
      (∀ (mls' : Array Slot) (mst' : List Value), ll_L B adr ls' mls' nL → ll_st B adr st' mst' → W p l e R s m args below meth c H locs cells slots Q (F0 m pc' mls' mst')) → W p l e R s m args below meth c H locs cells slots Q (F0 m pc mls mst)) : ll_K cc own ini lw L xs pc f := by
  intro ls st σ pc' ls' st' σ1 hf
  obtain ⟨rfl, h3⟩ := h ls st σ pc' ls' st' σ1 hf
  refine ⟨⟨Nat.le_refl _, Nat.le_refl _⟩, ?_⟩
  intro B nL p l e R s m args below meth c D A Q cx adr ws mls mst H locs cells slots hW hS hL hst _ _ kk
  refine h3 B nL p l e R s m args below meth c D A Q cx adr mls mst H locs cells slots hL hst fun mls' mst' q1 q2 => ?_
  have k2 := kk adr ws mls' mst' H locs ⟨[], by simp⟩ hW hS q1 q2
  rw [Nat.sub_self, Nat.sub_self] at k2
  exact k2
theorem lk_istore_n {k : Fin 4} {i : Nat} (hd : decode cc pc = .ok (.istore_n k, 1)) (hk : (k : Nat) = i) : ll_K cc own ini lw L xs pc (lo_istore (pc + 1) i) := by
  refine ll_kls fun ls st σ pc' ls' st' σ1 hf => ?_
  obtain ⟨x, rest, rfl, hi, hno, he⟩ := lo_istore_inv hf
  cases he
  refine ⟨rfl, fun B nL p l e R s m args below meth c D A Q cx adr mls mst H locs cells slots hL hst kk => ?_⟩
  obtain ⟨mr, rfl, hr⟩ := ll_st_int hst
  obtain ⟨hl, lv, h2, h3⟩ := hL
  exact lv_istore_n cx.1 cx.2.1 hd hk h2 (by omega) rfl fun mls' h' => kk mls' mr (ll_L_set (mls := mls) hl h3 hi hno rfl h') hr
theorem lk_istore {i : Nat} (hd : decode cc pc = .ok (.istore i, 2)) : ll_K cc own ini lw L xs pc (lo_istore (pc + 2) i) := by
  refine ll_kls fun ls st σ pc' ls' st' σ1 hf => ?_
  obtain ⟨x, rest, rfl, hi, hno, he⟩ := lo_istore_inv hf
  cases he
  refine ⟨rfl, fun B nL p l e R s m args below meth c D A Q cx adr mls mst H locs cells slots hL hst kk => ?_⟩
  obtain ⟨mr, rfl, hr⟩ := ll_st_int hst
  obtain ⟨hl, lv, h2, h3⟩ := hL
  exact lv_istore cx.1 cx.2.1 hd h2 (by omega) rfl fun mls' h' => kk mls' mr (ll_L_set (mls := mls) hl h3 hi hno rfl h') hr
theorem lk_astore_n {k : Fin 4} {i : Nat} (hd : decode cc pc = .ok (.astore_n k, 1)) (hk : (k : Nat) = i) : ll_K cc own ini lw L xs pc (lo_astore (pc + 1) i) := by
  refine ll_kls fun ls st σ pc' ls' st' σ1 hf => ?_
  obtain ⟨x, rest, rfl, hi, hno, he⟩ := lo_astore_inv hf
  cases he
  refine ⟨rfl, fun B nL p l e R s m args below meth c D A Q cx adr mls mst H locs cells slots hL hst kk => ?_⟩
  obtain ⟨a, mr, ha, rfl, hr⟩ := ll_st_ref hst
  obtain ⟨hl, lv, h2, h3⟩ := hL
  exact lv_astore_n cx.1 cx.2.1 hd hk h2 (by omega) rfl fun mls' h' => kk mls' mr (ll_L_set (mls := mls) hl h3 hi hno ⟨a, ha, rfl⟩ h') hr
theorem lk_astore {i : Nat} (hd : decode cc pc = .ok (.astore i, 2)) : ll_K cc own ini lw L xs pc (lo_astore (pc + 2) i) := by
  refine ll_kls fun ls st σ pc' ls' st' σ1 hf => ?_
  obtain ⟨x, rest, rfl, hi, hno, he⟩ := lo_astore_inv hf
  cases he
  refine ⟨rfl, fun B nL p l e R s m args below meth c D A Q cx adr mls mst H locs cells slots hL hst kk => ?_⟩
  obtain ⟨a, mr, ha, rfl, hr⟩ := ll_st_ref hst
  obtain ⟨hl, lv, h2, h3⟩ := hL
  exact lv_astore cx.1 cx.2.1 hd h2 (by omega) rfl fun mls' h' => kk mls' mr (ll_L_set (mls := mls) hl h3 hi hno ⟨a, ha, rfl⟩ h') hr
theorem lk_iinc {i : Nat} {n : Int} {k : Int32} (hd : decode cc pc = .ok (.iinc i n, 3)) (hk : Int32.ofInt n = k) : ll_K cc own ini lw L xs pc (lo_iinc (pc + 3) i k) := by
  subst hk
  refine ll_kls fun ls st σ pc' ls' st' σ1 hf => ?_
  obtain ⟨x, hx, hno, he⟩ := lo_iinc_inv hf
  cases he
  refine ⟨rfl, fun B nL p l e R s m args below meth c D A Q cx adr mls mst H locs cells slots hL hst kk => ?_⟩
  have hi : i < ls.length := (List.getElem?_eq_some_iff.mp hx).1
  obtain ⟨hl, lv, h2, h3⟩ := hL
  obtain ⟨w, q1, q2⟩ := h3 i _ hx (fun q => by cases q)
  rw [show w = .int x from q2] at q1
  obtain ⟨j, hj⟩ := List.getElem?_of_mem q1
  exact lv_iinc cx.1 cx.2.1 hd h2 hj rfl (by omega) rfl fun mls' h' => kk mls' mst (ll_L_set (mls := mls) hl h3 hi hno rfl h') hst
theorem lo_bin_inv {n : Nat} {g : Int32 → Int32 → Int32} {ls st : List Value} {σ : ll_S} {r : ll_F} (h : lo_bin n g ls st σ = some r) : ∃ x y rest, st = .int y :: .int x :: rest ∧ r = (n, ls, .int (g x y) :: rest, σ) := by
  unfold lo_bin at h
  split at h
  · rename_i y x rest
    exact ⟨x, y, rest, rfl, (Option.some.inj h).symm⟩
  · cases h
theorem lo_div_inv {n : Nat} {g : Int32 → Int32 → Int32} {ls st : List Value} {σ : ll_S} {r : ll_F} (h : lo_div n g ls st σ = some r) : ∃ x y rest, st = .int y :: .int x :: rest ∧ ¬ y = 0 ∧ r = (n, ls, .int (g x y) :: rest, σ) := by
  unfold lo_div at h
  split at h
  · rename_i y x rest
    split at h
    · cases h
    · rename_i hy
      exact ⟨x, y, rest, rfl, hy, (Option.some.inj h).symm⟩
  · cases h
theorem lo_lbin_inv {n : Nat} {g : Int64 → Int64 → Int64} {ls st : List Value} {σ : ll_S} {r : ll_F} (h : lo_lbin n g ls st σ = some r) : ∃ x y rest, st = .long y :: .long x :: rest ∧ r = (n, ls, .long (g x y) :: rest, σ) := by
  unfold lo_lbin at h
  split at h
  · rename_i y x rest
    exact ⟨x, y, rest, rfl, (Option.some.inj h).symm⟩
  · cases h
theorem lo_lsh_inv {n : Nat} {g : Int64 → Int32 → Int64} {ls st : List Value} {σ : ll_S} {r : ll_F} (h : lo_lsh n g ls st σ = some r) : ∃ x y rest, st = .int y :: .long x :: rest ∧ r = (n, ls, .long (g x y) :: rest, σ) := by
  unfold lo_lsh at h
  split at h
  · rename_i y x rest
    exact ⟨x, y, rest, rfl, (Option.some.inj h).symm⟩
  · cases h
theorem lk_iadd (hd : decode cc pc = .ok (.iadd, 1)) : ll_K cc own ini lw L xs pc (lo_bin (pc + 1) (fun x y => x + y)) := by
  refine ll_kst fun ls st σ pc' ls' st' σ1 hf => ?_
  obtain ⟨x, y, rest, rfl, he⟩ := lo_bin_inv hf
  cases he
  refine ⟨rfl, rfl, fun B nL p l e R s m args below meth c D A Q cx adr mls mst H locs cells slots hL hst => ?_⟩
  obtain ⟨m1, rfl, h1⟩ := ll_st_int hst
  obtain ⟨m2, rfl, h2⟩ := ll_st_int h1
  exact ⟨_ :: m2, ⟨rfl, h2⟩, fun k => lv_iadd cx.1 cx.2.1 hd k⟩
theorem lk_isub (hd : decode cc pc = .ok (.isub, 1)) : ll_K cc own ini lw L xs pc (lo_bin (pc + 1) (fun x y => x - y)) := by
  refine ll_kst fun ls st σ pc' ls' st' σ1 hf => ?_
  obtain ⟨x, y, rest, rfl, he⟩ := lo_bin_inv hf
  cases he
  refine ⟨rfl, rfl, fun B nL p l e R s m args below meth c D A Q cx adr mls mst H locs cells slots hL hst => ?_⟩
  obtain ⟨m1, rfl, h1⟩ := ll_st_int hst
  obtain ⟨m2, rfl, h2⟩ := ll_st_int h1
  exact ⟨_ :: m2, ⟨rfl, h2⟩, fun k => lv_isub cx.1 cx.2.1 hd k⟩
theorem lk_imul (hd : decode cc pc = .ok (.imul, 1)) : ll_K cc own ini lw L xs pc (lo_bin (pc + 1) (fun x y => x * y)) := by
  refine ll_kst fun ls st σ pc' ls' st' σ1 hf => ?_
  obtain ⟨x, y, rest, rfl, he⟩ := lo_bin_inv hf
  cases he
  refine ⟨rfl, rfl, fun B nL p l e R s m args below meth c D A Q cx adr mls mst H locs cells slots hL hst => ?_⟩
  obtain ⟨m1, rfl, h1⟩ := ll_st_int hst
  obtain ⟨m2, rfl, h2⟩ := ll_st_int h1
  exact ⟨_ :: m2, ⟨rfl, h2⟩, fun k => lv_imul cx.1 cx.2.1 hd k⟩
theorem lk_iand (hd : decode cc pc = .ok (.iand, 1)) : ll_K cc own ini lw L xs pc (lo_bin (pc + 1) (fun x y => x &&& y)) := by
  refine ll_kst fun ls st σ pc' ls' st' σ1 hf => ?_
  obtain ⟨x, y, rest, rfl, he⟩ := lo_bin_inv hf
  cases he
  refine ⟨rfl, rfl, fun B nL p l e R s m args below meth c D A Q cx adr mls mst H locs cells slots hL hst => ?_⟩
  obtain ⟨m1, rfl, h1⟩ := ll_st_int hst
  obtain ⟨m2, rfl, h2⟩ := ll_st_int h1
  exact ⟨_ :: m2, ⟨rfl, h2⟩, fun k => lv_iand cx.1 cx.2.1 hd k⟩
theorem lk_ior (hd : decode cc pc = .ok (.ior, 1)) : ll_K cc own ini lw L xs pc (lo_bin (pc + 1) (fun x y => x ||| y)) := by
  refine ll_kst fun ls st σ pc' ls' st' σ1 hf => ?_
  obtain ⟨x, y, rest, rfl, he⟩ := lo_bin_inv hf
  cases he
  refine ⟨rfl, rfl, fun B nL p l e R s m args below meth c D A Q cx adr mls mst H locs cells slots hL hst => ?_⟩
  obtain ⟨m1, rfl, h1⟩ := ll_st_int hst
  obtain ⟨m2, rfl, h2⟩ := ll_st_int h1
  exact ⟨_ :: m2, ⟨rfl, h2⟩, fun k => lv_ior cx.1 cx.2.1 hd k⟩
theorem lk_ixor (hd : decode cc pc = .ok (.ixor, 1)) : ll_K cc own ini lw L xs pc (lo_bin (pc + 1) (fun x y => x ^^^ y)) := by
  refine ll_kst fun ls st σ pc' ls' st' σ1 hf => ?_
  obtain ⟨x, y, rest, rfl, he⟩ := lo_bin_inv hf
  cases he
  refine ⟨rfl, rfl, fun B nL p l e R s m args below meth c D A Q cx adr mls mst H locs cells slots hL hst => ?_⟩
  obtain ⟨m1, rfl, h1⟩ := ll_st_int hst
  obtain ⟨m2, rfl, h2⟩ := ll_st_int h1
  exact ⟨_ :: m2, ⟨rfl, h2⟩, fun k => lv_ixor cx.1 cx.2.1 hd k⟩
theorem lk_ishl (hd : decode cc pc = .ok (.ishl, 1)) : ll_K cc own ini lw L xs pc (lo_bin (pc + 1) (fun x y => x <<< (y &&& 31))) := by
  refine ll_kst fun ls st σ pc' ls' st' σ1 hf => ?_
  obtain ⟨x, y, rest, rfl, he⟩ := lo_bin_inv hf
  cases he
  refine ⟨rfl, rfl, fun B nL p l e R s m args below meth c D A Q cx adr mls mst H locs cells slots hL hst => ?_⟩
  obtain ⟨m1, rfl, h1⟩ := ll_st_int hst
  obtain ⟨m2, rfl, h2⟩ := ll_st_int h1
  exact ⟨_ :: m2, ⟨rfl, h2⟩, fun k => lv_ishl cx.1 cx.2.1 hd k⟩
theorem lk_ishr (hd : decode cc pc = .ok (.ishr, 1)) : ll_K cc own ini lw L xs pc (lo_bin (pc + 1) (fun x y => x >>> (y &&& 31))) := by
  refine ll_kst fun ls st σ pc' ls' st' σ1 hf => ?_
  obtain ⟨x, y, rest, rfl, he⟩ := lo_bin_inv hf
  cases he
  refine ⟨rfl, rfl, fun B nL p l e R s m args below meth c D A Q cx adr mls mst H locs cells slots hL hst => ?_⟩
  obtain ⟨m1, rfl, h1⟩ := ll_st_int hst
  obtain ⟨m2, rfl, h2⟩ := ll_st_int h1
  exact ⟨_ :: m2, ⟨rfl, h2⟩, fun k => lv_ishr cx.1 cx.2.1 hd k⟩
theorem lk_iushr (hd : decode cc pc = .ok (.iushr, 1)) : ll_K cc own ini lw L xs pc (lo_bin (pc + 1) (fun x y => (x.toUInt32 >>> (y.toUInt32 &&& Int32.toUInt32 31)).toInt32)) := by
  refine ll_kst fun ls st σ pc' ls' st' σ1 hf => ?_
  obtain ⟨x, y, rest, rfl, he⟩ := lo_bin_inv hf
  cases he
  refine ⟨rfl, rfl, fun B nL p l e R s m args below meth c D A Q cx adr mls mst H locs cells slots hL hst => ?_⟩
  obtain ⟨m1, rfl, h1⟩ := ll_st_int hst
  obtain ⟨m2, rfl, h2⟩ := ll_st_int h1
  exact ⟨_ :: m2, ⟨rfl, h2⟩, fun k => lv_iushr cx.1 cx.2.1 hd rfl k⟩
theorem lk_idiv (hd : decode cc pc = .ok (.idiv, 1)) : ll_K cc own ini lw L xs pc (lo_div (pc + 1) (fun x y => x / y)) := by
  refine ll_kst fun ls st σ pc' ls' st' σ1 hf => ?_
  obtain ⟨x, y, rest, rfl, hy, he⟩ := lo_div_inv hf
  cases he
  refine ⟨rfl, rfl, fun B nL p l e R s m args below meth c D A Q cx adr mls mst H locs cells slots hL hst => ?_⟩
  obtain ⟨m1, rfl, h1⟩ := ll_st_int hst
  obtain ⟨m2, rfl, h2⟩ := ll_st_int h1
  exact ⟨_ :: m2, ⟨rfl, h2⟩, fun k => lv_idiv cx.1 cx.2.1 hd hy k⟩
theorem lk_irem (hd : decode cc pc = .ok (.irem, 1)) : ll_K cc own ini lw L xs pc (lo_div (pc + 1) (fun x y => x - x / y * y)) := by
  refine ll_kst fun ls st σ pc' ls' st' σ1 hf => ?_
  obtain ⟨x, y, rest, rfl, hy, he⟩ := lo_div_inv hf
  cases he
  refine ⟨rfl, rfl, fun B nL p l e R s m args below meth c D A Q cx adr mls mst H locs cells slots hL hst => ?_⟩
  obtain ⟨m1, rfl, h1⟩ := ll_st_int hst
  obtain ⟨m2, rfl, h2⟩ := ll_st_int h1
  exact ⟨_ :: m2, ⟨rfl, h2⟩, fun k => lv_irem cx.1 cx.2.1 hd hy k⟩
theorem lk_land (hd : decode cc pc = .ok (.land, 1)) : ll_K cc own ini lw L xs pc (lo_lbin (pc + 1) (fun x y => x &&& y)) := by
  refine ll_kst fun ls st σ pc' ls' st' σ1 hf => ?_
  obtain ⟨x, y, rest, rfl, he⟩ := lo_lbin_inv hf
  cases he
  refine ⟨rfl, rfl, fun B nL p l e R s m args below meth c D A Q cx adr mls mst H locs cells slots hL hst => ?_⟩
  obtain ⟨m1, rfl, h1⟩ := ll_st_long hst
  obtain ⟨m2, rfl, h2⟩ := ll_st_long h1
  exact ⟨_ :: m2, ⟨rfl, h2⟩, fun k => lv_land cx.1 cx.2.1 hd k⟩
theorem lk_lor (hd : decode cc pc = .ok (.lor, 1)) : ll_K cc own ini lw L xs pc (lo_lbin (pc + 1) (fun x y => x ||| y)) := by
  refine ll_kst fun ls st σ pc' ls' st' σ1 hf => ?_
  obtain ⟨x, y, rest, rfl, he⟩ := lo_lbin_inv hf
  cases he
  refine ⟨rfl, rfl, fun B nL p l e R s m args below meth c D A Q cx adr mls mst H locs cells slots hL hst => ?_⟩
  obtain ⟨m1, rfl, h1⟩ := ll_st_long hst
  obtain ⟨m2, rfl, h2⟩ := ll_st_long h1
  exact ⟨_ :: m2, ⟨rfl, h2⟩, fun k => lv_lor cx.1 cx.2.1 hd k⟩
theorem lk_lshl (hd : decode cc pc = .ok (.lshl, 1)) : ll_K cc own ini lw L xs pc (lo_lsh (pc + 1) (fun x y => x <<< (y.toInt64 &&& 63))) := by
  refine ll_kst fun ls st σ pc' ls' st' σ1 hf => ?_
  obtain ⟨x, y, rest, rfl, he⟩ := lo_lsh_inv hf
  cases he
  refine ⟨rfl, rfl, fun B nL p l e R s m args below meth c D A Q cx adr mls mst H locs cells slots hL hst => ?_⟩
  obtain ⟨m1, rfl, h1⟩ := ll_st_int hst
  obtain ⟨m2, rfl, h2⟩ := ll_st_long h1
  exact ⟨_ :: m2, ⟨rfl, h2⟩, fun k => lv_lshl cx.1 cx.2.1 hd rfl k⟩
theorem lk_lushr (hd : decode cc pc = .ok (.lushr, 1)) : ll_K cc own ini lw L xs pc (lo_lsh (pc + 1) (fun x y => (x.toUInt64 >>> (y.toInt64.toUInt64 &&& Int64.toUInt64 63)).toInt64)) := by
  refine ll_kst fun ls st σ pc' ls' st' σ1 hf => ?_
  obtain ⟨x, y, rest, rfl, he⟩ := lo_lsh_inv hf
  cases he
  refine ⟨rfl, rfl, fun B nL p l e R s m args below meth c D A Q cx adr mls mst H locs cells slots hL hst => ?_⟩
  obtain ⟨m1, rfl, h1⟩ := ll_st_int hst
  obtain ⟨m2, rfl, h2⟩ := ll_st_long h1
  exact ⟨_ :: m2, ⟨rfl, h2⟩, fun k => lv_lushr cx.1 cx.2.1 hd rfl k⟩
theorem lk_i2l (hd : decode cc pc = .ok (.i2l, 1)) : ll_K cc own ini lw L xs pc (lo_i2l (pc + 1)) := by
  refine ll_kst fun ls st σ pc' ls' st' σ1 hf => ?_
  unfold lo_i2l at hf
  split at hf
  · cases hf
    refine ⟨rfl, rfl, fun B nL p l e R s m args below meth c D A Q cx adr mls mst H locs cells slots hL hst => ?_⟩
    obtain ⟨m1, rfl, h1⟩ := ll_st_int hst
    exact ⟨_ :: m1, ⟨rfl, h1⟩, fun k => lv_i2l cx.1 cx.2.1 hd rfl k⟩
  · cases hf
theorem lk_l2i (hd : decode cc pc = .ok (.l2i, 1)) : ll_K cc own ini lw L xs pc (lo_l2i (pc + 1)) := by
  refine ll_kst fun ls st σ pc' ls' st' σ1 hf => ?_
  unfold lo_l2i at hf
  split at hf
  · cases hf
    refine ⟨rfl, rfl, fun B nL p l e R s m args below meth c D A Q cx adr mls mst H locs cells slots hL hst => ?_⟩
    obtain ⟨m1, rfl, h1⟩ := ll_st_long hst
    exact ⟨_ :: m1, ⟨rfl, h1⟩, fun k => lv_l2i cx.1 cx.2.1 hd rfl k⟩
  · cases hf
theorem lk_lcmp (hd : decode cc pc = .ok (.lcmp, 1)) : ll_K cc own ini lw L xs pc (lo_lcmp (pc + 1)) := by
  refine ll_kst fun ls st σ pc' ls' st' σ1 hf => ?_
  unfold lo_lcmp at hf
  split at hf
  · cases hf
    refine ⟨rfl, rfl, fun B nL p l e R s m args below meth c D A Q cx adr mls mst H locs cells slots hL hst => ?_⟩
    obtain ⟨m1, rfl, h1⟩ := ll_st_long hst
    obtain ⟨m2, rfl, h2⟩ := ll_st_long h1
    exact ⟨_ :: m2, ⟨rfl, h2⟩, fun k => W.lcmp cx.1 cx.2.1 hd k⟩
  · cases hf
theorem ll_one_cat {B : Nat → Prop} {adr : List Nat} {v w : Value} (h : ll_one v = true) (hv : ll_v B adr v w) : w.category = 1 := by
  cases v with
  | int x => rw [show w = .int x from hv]; rfl
  | long x => cases h
  | float x => obtain ⟨b, -, rfl⟩ := hv; rfl
  | double x => cases h
  | null => rw [show w = .null from hv]; rfl
  | ref a => obtain ⟨b, -, rfl⟩ := hv; rfl
  | retAddr a => exact False.elim hv
theorem lk_dup (hd : decode cc pc = .ok (.dup, 1)) : ll_K cc own ini lw L xs pc (lo_dup (pc + 1)) := by
  refine ll_kst fun ls st σ pc' ls' st' σ1 hf => ?_
  unfold lo_dup at hf
  split at hf
  · split at hf
    · rename_i h1
      cases hf
      refine ⟨rfl, rfl, fun B nL p l e R s m args below meth c D A Q cx adr mls mst H locs cells slots hL hst => ?_⟩
      obtain ⟨w, mr, rfl, q1, q2⟩ := ll_st_inv hst
      exact ⟨w :: w :: mr, ⟨q1, q1, q2⟩, fun k => lv_dup cx.1 cx.2.1 hd (ll_one_cat h1 q1) k⟩
    · cases hf
  · cases hf
theorem lk_dup2 (hd : decode cc pc = .ok (.dup2, 1)) : ll_K cc own ini lw L xs pc (lo_dup2 (pc + 1)) := by
  refine ll_kst fun ls st σ pc' ls' st' σ1 hf => ?_
  unfold lo_dup2 at hf
  split at hf
  · split at hf
    · rename_i h1
      cases hf
      refine ⟨rfl, rfl, fun B nL p l e R s m args below meth c D A Q cx adr mls mst H locs cells slots hL hst => ?_⟩
      obtain ⟨w, m1, rfl, q1, q2⟩ := ll_st_inv hst
      obtain ⟨w2, m2, rfl, q3, q4⟩ := ll_st_inv q2
      exact ⟨w :: w2 :: w :: w2 :: m2, ⟨q1, q3, q1, q3, q4⟩, fun k => lv_dup2_11 cx.1 cx.2.1 hd (ll_one_cat h1.1 q1) (ll_one_cat h1.2 q3) k⟩
    · cases hf
  · cases hf
theorem lk_pop (hd : decode cc pc = .ok (.pop, 1)) : ll_K cc own ini lw L xs pc (lo_pop (pc + 1)) := by
  refine ll_kst fun ls st σ pc' ls' st' σ1 hf => ?_
  unfold lo_pop at hf
  split at hf
  · split at hf
    · rename_i h1
      cases hf
      refine ⟨rfl, rfl, fun B nL p l e R s m args below meth c D A Q cx adr mls mst H locs cells slots hL hst => ?_⟩
      obtain ⟨w, mr, rfl, q1, q2⟩ := ll_st_inv hst
      exact ⟨mr, q2, fun k => lv_pop cx.1 cx.2.1 hd (ll_one_cat h1 q1) k⟩
    · cases hf
  · cases hf
theorem lk_goto {off : Int} {t : Nat} (hd : decode cc pc = .ok (.goto off, 3)) (ht : (pc : Int) + off = (t : Int)) : ll_K cc own ini lw L xs pc (lo_goto t) := by
  refine ll_kst fun ls st σ pc' ls' st' σ1 hf => ?_
  cases hf
  exact ⟨rfl, rfl, fun B nL p l e R s m args below meth c D A Q cx adr mls mst H locs cells slots hL hst => ⟨mst, hst, fun k => lv_goto cx.1 cx.2.1 hd ht k⟩⟩
theorem lo_if_inv {t n : Nat} {g : Int32 → Bool} {ls st : List Value} {σ : ll_S} {r : ll_F} (h : lo_if t n g ls st σ = some r) : ∃ x rest, st = .int x :: rest ∧ ((g x = true ∧ r = (t, ls, rest, σ)) ∨ (¬ g x = true ∧ r = (n, ls, rest, σ))) := by
  unfold lo_if at h
  split at h
  · rename_i x rest
    refine ⟨x, rest, rfl, ?_⟩
    split at h
    · rename_i hg
      exact Or.inl ⟨hg, (Option.some.inj h).symm⟩
    · rename_i hg
      exact Or.inr ⟨hg, (Option.some.inj h).symm⟩
  · cases h
theorem lo_cmp_inv {t n : Nat} {g : Int32 → Int32 → Bool} {ls st : List Value} {σ : ll_S} {r : ll_F} (h : lo_cmp t n g ls st σ = some r) : ∃ x y rest, st = .int y :: .int x :: rest ∧ ((g x y = true ∧ r = (t, ls, rest, σ)) ∨ (¬ g x y = true ∧ r = (n, ls, rest, σ))) := by
  unfold lo_cmp at h
  split at h
  · rename_i y x rest
    refine ⟨x, y, rest, rfl, ?_⟩
    split at h
    · rename_i hg
      exact Or.inl ⟨hg, (Option.some.inj h).symm⟩
    · rename_i hg
      exact Or.inr ⟨hg, (Option.some.inj h).symm⟩
  · cases h
theorem lk_if_eq {off : Int} {t : Nat} (hd : decode cc pc = .ok (.ifCond .eq off, 3)) (ht : (pc : Int) + off = (t : Int)) : ll_K cc own ini lw L xs pc (lo_if t (pc + 3) (fun x => decide (x = 0))) := by
  refine ll_kst fun ls st σ pc' ls' st' σ1 hf => ?_
  obtain ⟨x, rest, rfl, hc⟩ := lo_if_inv hf
  rcases hc with ⟨hg, he⟩ | ⟨hg, he⟩ <;> cases he
  · refine ⟨rfl, rfl, fun B nL p l e R s m args below meth c D A Q cx adr mls mst H locs cells slots hL hst => ?_⟩
    obtain ⟨m1, rfl, h1⟩ := ll_st_int hst
    exact ⟨m1, h1, fun k => lv_if_eq cx.1 cx.2.1 hd ht (fun _ => k) (fun q => absurd (of_decide_eq_true hg) q)⟩
  · refine ⟨rfl, rfl, fun B nL p l e R s m args below meth c D A Q cx adr mls mst H locs cells slots hL hst => ?_⟩
    obtain ⟨m1, rfl, h1⟩ := ll_st_int hst
    exact ⟨m1, h1, fun k => lv_if_eq cx.1 cx.2.1 hd ht (fun q => absurd (decide_eq_true q) hg) (fun _ => k)⟩
theorem lk_icmp_eq {off : Int} {t : Nat} (hd : decode cc pc = .ok (.if_icmp .eq off, 3)) (ht : (pc : Int) + off = (t : Int)) : ll_K cc own ini lw L xs pc (lo_cmp t (pc + 3) (fun x y => decide (x = y))) := by
  refine ll_kst fun ls st σ pc' ls' st' σ1 hf => ?_
  obtain ⟨x, y, rest, rfl, hc⟩ := lo_cmp_inv hf
  rcases hc with ⟨hg, he⟩ | ⟨hg, he⟩ <;> cases he
  · refine ⟨rfl, rfl, fun B nL p l e R s m args below meth c D A Q cx adr mls mst H locs cells slots hL hst => ?_⟩
    obtain ⟨m1, rfl, h1⟩ := ll_st_int hst
    obtain ⟨m2, rfl, h2⟩ := ll_st_int h1
    exact ⟨m2, h2, fun k => lv_icmp_eq cx.1 cx.2.1 hd ht (fun _ => k) (fun q => absurd (of_decide_eq_true hg) q)⟩
  · refine ⟨rfl, rfl, fun B nL p l e R s m args below meth c D A Q cx adr mls mst H locs cells slots hL hst => ?_⟩
    obtain ⟨m1, rfl, h1⟩ := ll_st_int hst
    obtain ⟨m2, rfl, h2⟩ := ll_st_int h1
    exact ⟨m2, h2, fun k => lv_icmp_eq cx.1 cx.2.1 hd ht (fun q => absurd (decide_eq_true q) hg) (fun _ => k)⟩
theorem lk_if_ne {off : Int} {t : Nat} (hd : decode cc pc = .ok (.ifCond .ne off, 3)) (ht : (pc : Int) + off = (t : Int)) : ll_K cc own ini lw L xs pc (lo_if t (pc + 3) (fun x => decide (¬ x = 0))) := by
  refine ll_kst fun ls st σ pc' ls' st' σ1 hf => ?_
  obtain ⟨x, rest, rfl, hc⟩ := lo_if_inv hf
  rcases hc with ⟨hg, he⟩ | ⟨hg, he⟩ <;> cases he
  · refine ⟨rfl, rfl, fun B nL p l e R s m args below meth c D A Q cx adr mls mst H locs cells slots hL hst => ?_⟩
    obtain ⟨m1, rfl, h1⟩ := ll_st_int hst
    exact ⟨m1, h1, fun k => lv_if_ne cx.1 cx.2.1 hd ht (fun _ => k) (fun q => absurd q (of_decide_eq_true hg))⟩
  · refine ⟨rfl, rfl, fun B nL p l e R s m args below meth c D A Q cx adr mls mst H locs cells slots hL hst => ?_⟩
    obtain ⟨m1, rfl, h1⟩ := ll_st_int hst
    exact ⟨m1, h1, fun k => lv_if_ne cx.1 cx.2.1 hd ht (fun q => absurd (decide_eq_true q) hg) (fun _ => k)⟩
theorem lk_icmp_ne {off : Int} {t : Nat} (hd : decode cc pc = .ok (.if_icmp .ne off, 3)) (ht : (pc : Int) + off = (t : Int)) : ll_K cc own ini lw L xs pc (lo_cmp t (pc + 3) (fun x y => decide (¬ x = y))) := by
  refine ll_kst fun ls st σ pc' ls' st' σ1 hf => ?_
  obtain ⟨x, y, rest, rfl, hc⟩ := lo_cmp_inv hf
  rcases hc with ⟨hg, he⟩ | ⟨hg, he⟩ <;> cases he
  · refine ⟨rfl, rfl, fun B nL p l e R s m args below meth c D A Q cx adr mls mst H locs cells slots hL hst => ?_⟩
    obtain ⟨m1, rfl, h1⟩ := ll_st_int hst
    obtain ⟨m2, rfl, h2⟩ := ll_st_int h1
    exact ⟨m2, h2, fun k => lv_icmp_ne cx.1 cx.2.1 hd ht (fun _ => k) (fun q => absurd q (of_decide_eq_true hg))⟩
  · refine ⟨rfl, rfl, fun B nL p l e R s m args below meth c D A Q cx adr mls mst H locs cells slots hL hst => ?_⟩
    obtain ⟨m1, rfl, h1⟩ := ll_st_int hst
    obtain ⟨m2, rfl, h2⟩ := ll_st_int h1
    exact ⟨m2, h2, fun k => lv_icmp_ne cx.1 cx.2.1 hd ht (fun q => absurd (decide_eq_true q) hg) (fun _ => k)⟩
theorem lk_if_lt {off : Int} {t : Nat} (hd : decode cc pc = .ok (.ifCond .lt off, 3)) (ht : (pc : Int) + off = (t : Int)) : ll_K cc own ini lw L xs pc (lo_if t (pc + 3) (fun x => decide (x < 0))) := by
  refine ll_kst fun ls st σ pc' ls' st' σ1 hf => ?_
  obtain ⟨x, rest, rfl, hc⟩ := lo_if_inv hf
  rcases hc with ⟨hg, he⟩ | ⟨hg, he⟩ <;> cases he
  · refine ⟨rfl, rfl, fun B nL p l e R s m args below meth c D A Q cx adr mls mst H locs cells slots hL hst => ?_⟩
    obtain ⟨m1, rfl, h1⟩ := ll_st_int hst
    exact ⟨m1, h1, fun k => lv_if_lt cx.1 cx.2.1 hd ht (fun _ => k) (fun q => absurd (of_decide_eq_true hg) q)⟩
  · refine ⟨rfl, rfl, fun B nL p l e R s m args below meth c D A Q cx adr mls mst H locs cells slots hL hst => ?_⟩
    obtain ⟨m1, rfl, h1⟩ := ll_st_int hst
    exact ⟨m1, h1, fun k => lv_if_lt cx.1 cx.2.1 hd ht (fun q => absurd (decide_eq_true q) hg) (fun _ => k)⟩
theorem lk_icmp_lt {off : Int} {t : Nat} (hd : decode cc pc = .ok (.if_icmp .lt off, 3)) (ht : (pc : Int) + off = (t : Int)) : ll_K cc own ini lw L xs pc (lo_cmp t (pc + 3) (fun x y => decide (x < y))) := by
  refine ll_kst fun ls st σ pc' ls' st' σ1 hf => ?_
  obtain ⟨x, y, rest, rfl, hc⟩ := lo_cmp_inv hf
  rcases hc with ⟨hg, he⟩ | ⟨hg, he⟩ <;> cases he
  · refine ⟨rfl, rfl, fun B nL p l e R s m args below meth c D A Q cx adr mls mst H locs cells slots hL hst => ?_⟩
    obtain ⟨m1, rfl, h1⟩ := ll_st_int hst
    obtain ⟨m2, rfl, h2⟩ := ll_st_int h1
    exact ⟨m2, h2, fun k => lv_icmp_lt cx.1 cx.2.1 hd ht (fun _ => k) (fun q => absurd (of_decide_eq_true hg) q)⟩
  · refine ⟨rfl, rfl, fun B nL p l e R s m args below meth c D A Q cx adr mls mst H locs cells slots hL hst => ?_⟩
    obtain ⟨m1, rfl, h1⟩ := ll_st_int hst
    obtain ⟨m2, rfl, h2⟩ := ll_st_int h1
    exact ⟨m2, h2, fun k => lv_icmp_lt cx.1 cx.2.1 hd ht (fun q => absurd (decide_eq_true q) hg) (fun _ => k)⟩
theorem lk_if_ge {off : Int} {t : Nat} (hd : decode cc pc = .ok (.ifCond .ge off, 3)) (ht : (pc : Int) + off = (t : Int)) : ll_K cc own ini lw L xs pc (lo_if t (pc + 3) (fun x => decide (0 ≤ x))) := by
  refine ll_kst fun ls st σ pc' ls' st' σ1 hf => ?_
  obtain ⟨x, rest, rfl, hc⟩ := lo_if_inv hf
  rcases hc with ⟨hg, he⟩ | ⟨hg, he⟩ <;> cases he
  · refine ⟨rfl, rfl, fun B nL p l e R s m args below meth c D A Q cx adr mls mst H locs cells slots hL hst => ?_⟩
    obtain ⟨m1, rfl, h1⟩ := ll_st_int hst
    exact ⟨m1, h1, fun k => lv_if_ge cx.1 cx.2.1 hd ht (fun _ => k) (fun q => absurd (of_decide_eq_true hg) q)⟩
  · refine ⟨rfl, rfl, fun B nL p l e R s m args below meth c D A Q cx adr mls mst H locs cells slots hL hst => ?_⟩
    obtain ⟨m1, rfl, h1⟩ := ll_st_int hst
    exact ⟨m1, h1, fun k => lv_if_ge cx.1 cx.2.1 hd ht (fun q => absurd (decide_eq_true q) hg) (fun _ => k)⟩
theorem lk_icmp_ge {off : Int} {t : Nat} (hd : decode cc pc = .ok (.if_icmp .ge off, 3)) (ht : (pc : Int) + off = (t : Int)) : ll_K cc own ini lw L xs pc (lo_cmp t (pc + 3) (fun x y => decide (y ≤ x))) := by
  refine ll_kst fun ls st σ pc' ls' st' σ1 hf => ?_
  obtain ⟨x, y, rest, rfl, hc⟩ := lo_cmp_inv hf
  rcases hc with ⟨hg, he⟩ | ⟨hg, he⟩ <;> cases he
  · refine ⟨rfl, rfl, fun B nL p l e R s m args below meth c D A Q cx adr mls mst H locs cells slots hL hst => ?_⟩
    obtain ⟨m1, rfl, h1⟩ := ll_st_int hst
    obtain ⟨m2, rfl, h2⟩ := ll_st_int h1
    exact ⟨m2, h2, fun k => lv_icmp_ge cx.1 cx.2.1 hd ht (fun _ => k) (fun q => absurd (of_decide_eq_true hg) q)⟩
  · refine ⟨rfl, rfl, fun B nL p l e R s m args below meth c D A Q cx adr mls mst H locs cells slots hL hst => ?_⟩
    obtain ⟨m1, rfl, h1⟩ := ll_st_int hst
    obtain ⟨m2, rfl, h2⟩ := ll_st_int h1
    exact ⟨m2, h2, fun k => lv_icmp_ge cx.1 cx.2.1 hd ht (fun q => absurd (decide_eq_true q) hg) (fun _ => k)⟩
theorem lk_if_gt {off : Int} {t : Nat} (hd : decode cc pc = .ok (.ifCond .gt off, 3)) (ht : (pc : Int) + off = (t : Int)) : ll_K cc own ini lw L xs pc (lo_if t (pc + 3) (fun x => decide (0 < x))) := by
  refine ll_kst fun ls st σ pc' ls' st' σ1 hf => ?_
  obtain ⟨x, rest, rfl, hc⟩ := lo_if_inv hf
  rcases hc with ⟨hg, he⟩ | ⟨hg, he⟩ <;> cases he
  · refine ⟨rfl, rfl, fun B nL p l e R s m args below meth c D A Q cx adr mls mst H locs cells slots hL hst => ?_⟩
    obtain ⟨m1, rfl, h1⟩ := ll_st_int hst
    exact ⟨m1, h1, fun k => lv_if_gt cx.1 cx.2.1 hd ht (fun _ => k) (fun q => absurd (of_decide_eq_true hg) q)⟩
  · refine ⟨rfl, rfl, fun B nL p l e R s m args below meth c D A Q cx adr mls mst H locs cells slots hL hst => ?_⟩
    obtain ⟨m1, rfl, h1⟩ := ll_st_int hst
    exact ⟨m1, h1, fun k => lv_if_gt cx.1 cx.2.1 hd ht (fun q => absurd (decide_eq_true q) hg) (fun _ => k)⟩
theorem lk_icmp_gt {off : Int} {t : Nat} (hd : decode cc pc = .ok (.if_icmp .gt off, 3)) (ht : (pc : Int) + off = (t : Int)) : ll_K cc own ini lw L xs pc (lo_cmp t (pc + 3) (fun x y => decide (y < x))) := by
  refine ll_kst fun ls st σ pc' ls' st' σ1 hf => ?_
  obtain ⟨x, y, rest, rfl, hc⟩ := lo_cmp_inv hf
  rcases hc with ⟨hg, he⟩ | ⟨hg, he⟩ <;> cases he
  · refine ⟨rfl, rfl, fun B nL p l e R s m args below meth c D A Q cx adr mls mst H locs cells slots hL hst => ?_⟩
    obtain ⟨m1, rfl, h1⟩ := ll_st_int hst
    obtain ⟨m2, rfl, h2⟩ := ll_st_int h1
    exact ⟨m2, h2, fun k => lv_icmp_gt cx.1 cx.2.1 hd ht (fun _ => k) (fun q => absurd (of_decide_eq_true hg) q)⟩
  · refine ⟨rfl, rfl, fun B nL p l e R s m args below meth c D A Q cx adr mls mst H locs cells slots hL hst => ?_⟩
    obtain ⟨m1, rfl, h1⟩ := ll_st_int hst
    obtain ⟨m2, rfl, h2⟩ := ll_st_int h1
    exact ⟨m2, h2, fun k => lv_icmp_gt cx.1 cx.2.1 hd ht (fun q => absurd (decide_eq_true q) hg) (fun _ => k)⟩
theorem lk_if_le {off : Int} {t : Nat} (hd : decode cc pc = .ok (.ifCond .le off, 3)) (ht : (pc : Int) + off = (t : Int)) : ll_K cc own ini lw L xs pc (lo_if t (pc + 3) (fun x => decide (x ≤ 0))) := by
  refine ll_kst fun ls st σ pc' ls' st' σ1 hf => ?_
  obtain ⟨x, rest, rfl, hc⟩ := lo_if_inv hf
  rcases hc with ⟨hg, he⟩ | ⟨hg, he⟩ <;> cases he
  · refine ⟨rfl, rfl, fun B nL p l e R s m args below meth c D A Q cx adr mls mst H locs cells slots hL hst => ?_⟩
    obtain ⟨m1, rfl, h1⟩ := ll_st_int hst
    exact ⟨m1, h1, fun k => lv_if_le cx.1 cx.2.1 hd ht (fun _ => k) (fun q => absurd (of_decide_eq_true hg) q)⟩
  · refine ⟨rfl, rfl, fun B nL p l e R s m args below meth c D A Q cx adr mls mst H locs cells slots hL hst => ?_⟩
    obtain ⟨m1, rfl, h1⟩ := ll_st_int hst
    exact ⟨m1, h1, fun k => lv_if_le cx.1 cx.2.1 hd ht (fun q => absurd (decide_eq_true q) hg) (fun _ => k)⟩
theorem lk_icmp_le {off : Int} {t : Nat} (hd : decode cc pc = .ok (.if_icmp .le off, 3)) (ht : (pc : Int) + off = (t : Int)) : ll_K cc own ini lw L xs pc (lo_cmp t (pc + 3) (fun x y => decide (x ≤ y))) := by
  refine ll_kst fun ls st σ pc' ls' st' σ1 hf => ?_
  obtain ⟨x, y, rest, rfl, hc⟩ := lo_cmp_inv hf
  rcases hc with ⟨hg, he⟩ | ⟨hg, he⟩ <;> cases he
  · refine ⟨rfl, rfl, fun B nL p l e R s m args below meth c D A Q cx adr mls mst H locs cells slots hL hst => ?_⟩
    obtain ⟨m1, rfl, h1⟩ := ll_st_int hst
    obtain ⟨m2, rfl, h2⟩ := ll_st_int h1
    exact ⟨m2, h2, fun k => lv_icmp_le cx.1 cx.2.1 hd ht (fun _ => k) (fun q => absurd (of_decide_eq_true hg) q)⟩
  · refine ⟨rfl, rfl, fun B nL p l e R s m args below meth c D A Q cx adr mls mst H locs cells slots hL hst => ?_⟩
    obtain ⟨m1, rfl, h1⟩ := ll_st_int hst
    obtain ⟨m2, rfl, h2⟩ := ll_st_int h1
    exact ⟨m2, h2, fun k => lv_icmp_le cx.1 cx.2.1 hd ht (fun q => absurd (decide_eq_true q) hg) (fun _ => k)⟩
/-- the switch: 'ho' says that the offsets lead to ts -/
theorem lk_tab {d0 lo hi : Int} {offs : Array Int} {len d : Nat} {ts : List Nat} (hd : decode cc pc = .ok (.tableswitch d0 lo hi offs, len)) (hdt : (pc : Int) + d0 = (d : Int)) (hn : hi = lo + (ts.length : Int) - 1) (hts : ts.map (fun (t : Nat) => (t : Int) - (pc : Int)) = offs.toList) : ll_K cc own ini lw L xs pc (lo_tab lo ts d) := by
  refine ll_kst fun ls st σ pc' ls' st' σ1 hf => ?_
  unfold lo_tab at hf
  split at hf
  · rename_i x rest
    split at hf
    · rename_i hlt
      cases hf
      refine ⟨rfl, rfl, fun B nL p l e R s m args below meth c D A Q cx adr mls mst H locs cells slots hL hst => ?_⟩
      obtain ⟨m1, rfl, h1⟩ := ll_st_int hst
      exact ⟨m1, h1, fun k => lv_tableOut cx.1 cx.2.1 hd (Or.inl hlt) hdt k⟩
    · rename_i hlt
      cases hf
      refine ⟨rfl, rfl, fun B nL p l e R s m args below meth c D A Q cx adr mls mst H locs cells slots hL hst => ?_⟩
      obtain ⟨m1, rfl, h1⟩ := ll_st_int hst
      refine ⟨m1, h1, fun k => ?_⟩
      by_cases hin : hi < x.toInt
      · have hz : ts.getD (x.toInt - lo).toNat d = d := by
          rw [List.getD_eq_getElem?_getD, List.getElem?_eq_none (by omega)]
          rfl
        rw [hz] at k
        exact lv_tableOut cx.1 cx.2.1 hd (Or.inr hin) hdt k
      · have hlt2 : (x.toInt - lo).toNat < ts.length := by omega
        have e1 : offs.toList[(x.toInt - lo).toNat]? = some ((ts.getD (x.toInt - lo).toNat d : Nat) - (pc : Int)) := by
          rw [← hts, List.getElem?_map, List.getD_eq_getElem?_getD, List.getElem?_eq_getElem hlt2]
          rfl
        rw [Array.getElem?_toList] at e1
        exact lv_tableIn cx.1 cx.2.1 hd hlt hin e1 (by omega) k
  · cases hf
end LK
