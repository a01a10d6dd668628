/-! THE RUN of the light machine, and that it is the machine's. -/
def ll_sl (vs : List Value) : List Value := vs.flatMap fun v => if v.category = 2 then [v, .null] else [v]
def ll_ent (n : Nat) (vs : List Value) : List Value := ll_sl vs ++ List.replicate (n - (ll_sl vs).length) .null
/-- the receiver is of the method's class -/
def ll_rc (ci : Option Nat) (as : List Value) (σ : ll_S) : Bool := match ci with
  | none => true
  | some c => match as with
    | .ref i :: _ => match σ.2.2 i with
      | .inr (.inr (c', _)) => c' == c
      | _ => false
    | _ => false
def ll_okc (ci : Option Nat) (nL k : Nat) (st : List Value) (σ : ll_S) : Bool := decide (k ≤ st.length) && (decide ((ll_sl (st.drop k)).length ≤ 8) && (decide ((ll_sl (st.take k).reverse).length ≤ nL) && ll_rc ci (st.take k).reverse σ))
def ll_ret (t : Nat) (st : List Value) (σ : ll_S) : Option (Option Int32 × ll_S) := match st with
  | [] => if t = 0 then some (none, σ) else none
  | [.int x] => if t = 1 ∨ (t = 2 ∧ (x = 0 ∨ x = 1)) then some (some x, σ) else none
  | _ => none
def ll_run (P : Nat → Nat → Option ll_O) (mL : Nat → Nat) (mK : Nat → Option Nat) : Nat → Nat → Nat → Nat → List Value → List Value → ll_S → Option (Option Int32 × ll_S)
  | 0, _, _, _, _, _, _ => none
  | n + 1, d, y, pc, ls, st, σ => match P y pc with
    | none => none
    | some (.inl f) => match f ls st σ with
      | none => none
      | some r => ll_run P mL mK n d y r.1 r.2.1 r.2.2.1 r.2.2.2
    | some (.inr (.inl q)) => match d with
      | 0 => none
      | d' + 1 => if ll_okc (mK q.1) (mL q.1) q.2.1 st σ = true then (match ll_run P mL mK n d' q.1 0 (ll_ent (mL q.1) (st.take q.2.1).reverse) [] σ with
          | none => none
          | some r => ll_run P mL mK n (d' + 1) y q.2.2 ls ((r.1.map Value.int).toList ++ st.drop q.2.1) r.2) else none
    | some (.inr (.inr t)) => ll_ret t st σ
theorem ll_v_cat {B : Nat → Prop} {adr : List Nat} {v w : Value} (h : ll_v B adr v w) : v.category = w.category := by
  cases v with
  | int x => rw [show w = .int x from h]
  | long x => rw [show w = .long x from h]
  | float x => obtain ⟨b, -, rfl⟩ := h; rfl
  | double x => exact h.elim
  | null => rw [show w = .null from h]
  | ref a => obtain ⟨b, -, rfl⟩ := h; rfl
  | retAddr a => exact h.elim
theorem ll_sl_cons (v : Value) (vs : List Value) : ll_sl (v :: vs) = (if v.category = 2 then [v, .null] else [v]) ++ ll_sl vs := by simp [ll_sl]
theorem ll_sl_len {B : Nat → Prop} {adr : List Nat} : ∀ {as was : List Value}, ll_st B adr as was → (lg_sl was).length = (ll_sl as).length
  | [], [], _ => rfl
  | v :: as, w :: was, h => by
    have h1 := ll_sl_len h.2
    have h2 : lg_sl (w :: was) = (if w.category = 2 then [.val w, .second] else [.val w]) ++ lg_sl was := by simp [lg_sl]
    rw [h2, ll_sl_cons, List.length_append, List.length_append, h1, ll_v_cat h.1]
    split <;> rfl
  | [], _ :: _, h => h.elim
  | _ :: _, [], h => h.elim
theorem ll_ent_at {B : Nat → Prop} {adr : List Nat} : ∀ {as was : List Value} (off : Nat), ll_st B adr as was → ∀ (i : Nat) (v : Value), (ll_sl as)[i]? = some v → v ≠ .null → ∃ w, (off + i, w) ∈ lv_args off was ∧ ll_v B adr v w
  | [], [], _, _, i, v, hi, _ => by simp [ll_sl] at hi
  | u :: as, w :: was, off, h, i, v, hi, hn => by
    rw [ll_sl_cons] at hi
    by_cases hc : u.category = 2
    · rw [if_pos hc] at hi
      match i, hi with
      | 0, hi =>
        cases hi
        exact ⟨w, by simp [lv_args], h.1⟩
      | 1, hi =>
        cases hi
        exact absurd rfl hn
      | i + 2, hi =>
        obtain ⟨w', q1, q2⟩ := ll_ent_at (off + 2) h.2 i v (by simpa using hi) hn
        refine ⟨w', ?_, q2⟩
        rw [lv_args, if_pos (by rw [← ll_v_cat h.1]; exact hc)]
        exact List.mem_cons_of_mem _ (by rw [show off + (i + 2) = off + 2 + i by omega]; exact q1)
    · rw [if_neg hc] at hi
      match i, hi with
      | 0, hi =>
        cases hi
        exact ⟨w, by simp [lv_args], h.1⟩
      | i + 1, hi =>
        obtain ⟨w', q1, q2⟩ := ll_ent_at (off + 1) h.2 i v (by simpa using hi) hn
        refine ⟨w', ?_, q2⟩
        rw [lv_args, if_neg (by rw [← ll_v_cat h.1]; exact hc)]
        exact List.mem_cons_of_mem _ (by rw [show off + (i + 1) = off + 1 + i by omega]; exact q1)
  | [], _ :: _, _, h, _, _, _, _ => h.elim
  | _ :: _, [], _, h, _, _, _, _ => h.elim
theorem ll_ent_L {B : Nat → Prop} {adr : List Nat} {as was : List Value} {n : Nat} {mls : Array Slot} (h : ll_st B adr as was) (hn : (ll_sl as).length ≤ n) (hl : lv_has mls n (lv_args 0 was)) : ll_L B adr (ll_ent n as) mls n := by
  refine ⟨by simp [ll_ent]; omega, _, hl, fun i v hi hv => ?_⟩
  unfold ll_ent at hi
  by_cases hlt : i < (ll_sl as).length
  · rw [List.getElem?_append_left hlt] at hi
    obtain ⟨w, q1, q2⟩ := ll_ent_at 0 h i v hi hv
    exact ⟨w, by rw [Nat.zero_add] at q1; exact q1, q2⟩
  · rw [List.getElem?_append_right (by omega)] at hi
    exact absurd (List.eq_of_mem_replicate (List.mem_of_getElem? hi)) hv
theorem ll_st_append {B : Nat → Prop} {adr : List Nat} : ∀ {a b a2 b2 : List Value}, ll_st B adr a b → ll_st B adr a2 b2 → ll_st B adr (a ++ a2) (b ++ b2)
  | [], [], _, _, _, h => h
  | _ :: _, _ :: _, _, _, h, h2 => ⟨h.1, ll_st_append h.2 h2⟩
  | [], _ :: _, _, _, h, _ => h.elim
  | _ :: _, [], _, _, h, _ => h.elim
theorem ll_st_reverse {B : Nat → Prop} {adr : List Nat} : ∀ {a b : List Value}, ll_st B adr a b → ll_st B adr a.reverse b.reverse
  | [], [], _ => trivial
  | v :: a, w :: b, h => by
    rw [List.reverse_cons, List.reverse_cons]
    exact ll_st_append (ll_st_reverse h.2) ⟨h.1, trivial⟩
  | [], _ :: _, h => h.elim
  | _ :: _, [], h => h.elim
theorem ll_st_take {B : Nat → Prop} {adr : List Nat} : ∀ (k : Nat) {a b : List Value}, ll_st B adr a b → ll_st B adr (a.take k) (b.take k) ∧ ll_st B adr (a.drop k) (b.drop k)
  | 0, _, _, h => ⟨trivial, h⟩
  | _ + 1, [], [], _ => ⟨trivial, trivial⟩
  | k + 1, _ :: _, _ :: _, h => ⟨⟨h.1, (ll_st_take k h.2).1⟩, (ll_st_take k h.2).2⟩
  | _ + 1, [], _ :: _, h => h.elim
  | _ + 1, _ :: _, [], h => h.elim
/-- a call instruction: what the tables say of it (N: the method called, K: its receiver's class, k: the values taken) -/
def ll_J (cc : ByteArray) (own : String) (pc : Nat) (N : MethodName) (K : Option Nat) (rt : Option FieldType) (k : Nat) : Prop :=
  (∃ ix n ci q, decode cc pc = .ok (.invokevirtual ix, 3) ∧ ll_tb (.methodLink own ix N) ∧ ll_tb (.instanceMethod N) ∧ ll_tb (.selects N.cls N N) ∧ K = some ci ∧ vwCl[ci]? = some q ∧ q.1 = N.cls ∧ k = n + 1 ∧ (parseMethodDescriptor N.desc).map (fun d => d.parameters.length) = some n) ∨
  (∃ ix, decode cc pc = .ok (.invokestatic ix, 3) ∧ ll_tb (.methodLink own ix N) ∧ ll_tb (.static N) ∧ (parseMethodDescriptor N.desc).map (fun d => d.parameters.length) = some k) ∨
  (∃ ix n ci, decode cc pc = .ok (.invokespecial ix, 3) ∧ (ll_tb (.methodLink own ix N) ∨ ∃ host, (own, ix, N, host) ∈ ll_nws) ∧ ll_tb (.instanceMethod N) ∧ N.name = "<init>" ∧ K = some ci ∧ k = n + 1 ∧ (parseMethodDescriptor N.desc).map (fun d => d.parameters.length) = some n ∧ rt = none)
/-- an instruction of the table is the machine's -/
def ll_OK1 (cc : ByteArray) (own : String) (ret : Option FieldType) (ini : Bool) (mN : Nat → MethodName) (mR : Nat → Option FieldType) (mK : Nat → Option Nat) (cnt : Nat) (L : Nat) (xs : Nat → Int32) (lw : Bool) (pc : Nat) (o : ll_O) : Prop := match o with
  | .inl f => ll_K cc own ini lw L xs pc f
  | .inr (.inl (z, k, n)) => n = pc + 3 ∧ z < cnt ∧ ll_J cc own pc (mN z) (mK z) (mR z) k
  | .inr (.inr t) => (t = 0 → decode cc pc = .ok (.return_, 1) ∧ ret = none) ∧ (t = 1 → decode cc pc = .ok (.ireturn, 1) ∧ ret = some .int) ∧ (t = 2 → decode cc pc = .ok (.ireturn, 1) ∧ ret = some .boolean)
def ll_OK (mN : Nat → MethodName) (mC : Nat → ByteArray) (mR : Nat → Option FieldType) (mK : Nat → Option Nat) (mI : Nat → Bool) (cnt : Nat) (L : Nat) (xs : Nat → Int32) (lw : Bool) (y pc : Nat) (o : ll_O) : Prop := ll_OK1 (mC y) (mN y).cls (mR y) (mI y) mN mR mK cnt L xs lw pc o
/-- a method of the table -/
def ll_M (mN : Nat → MethodName) (mC : Nat → ByteArray) (mL : Nat → Nat) (mR : Nat → Option FieldType) (mI : Nat → Bool) (y : Nat) : Prop :=
  ll_tb (.code (mN y) (mC y) (mL y) (mR y)) ∧ ll_tb (.initialized (mN y).cls) ∧ plainName (mN y).cls = true ∧ ((mN y).cls ≠ "java/lang/invoke/MethodHandle" ∧ (mN y).cls ≠ "java/lang/invoke/VarHandle") ∧ mL y ≤ 40 ∧ (mI y = true → (mN y).name = "<init>")
theorem lj_v {cc : ByteArray} {own : String} {pc : Nat} {N : MethodName} {K : Option Nat} {rt : Option FieldType} {k : Nat} (ix n ci : Nat) (q : vw_C) (hd : decode cc pc = .ok (.invokevirtual ix, 3)) (h1 : ll_tb (.methodLink own ix N)) (h2 : ll_tb (.instanceMethod N)) (h3 : ll_tb (.selects N.cls N N)) (h4 : K = some ci) (h5 : vwCl[ci]? = some q) (h6 : q.1 = N.cls) (h7 : k = n + 1) (h8 : (parseMethodDescriptor N.desc).map (fun d => d.parameters.length) = some n) : ll_J cc own pc N K rt k := Or.inl ⟨ix, n, ci, q, hd, h1, h2, h3, h4, h5, h6, h7, h8⟩
theorem lj_s {cc : ByteArray} {own : String} {pc : Nat} {N : MethodName} {K : Option Nat} {rt : Option FieldType} {k : Nat} (ix : Nat) (hd : decode cc pc = .ok (.invokestatic ix, 3)) (h1 : ll_tb (.methodLink own ix N)) (h2 : ll_tb (.static N)) (h3 : (parseMethodDescriptor N.desc).map (fun d => d.parameters.length) = some k) : ll_J cc own pc N K rt k := Or.inr (Or.inl ⟨ix, hd, h1, h2, h3⟩)
theorem lj_i {cc : ByteArray} {own : String} {pc : Nat} {N : MethodName} {K : Option Nat} {rt : Option FieldType} {k : Nat} (ix n ci : Nat) (hd : decode cc pc = .ok (.invokespecial ix, 3)) (h1 : ll_tb (.methodLink own ix N) ∨ ∃ host, (own, ix, N, host) ∈ ll_nws) (h2 : ll_tb (.instanceMethod N)) (h3 : N.name = "<init>") (h4 : K = some ci) (h5 : k = n + 1) (h6 : (parseMethodDescriptor N.desc).map (fun d => d.parameters.length) = some n) (h7 : rt = none) : ll_J cc own pc N K rt k := Or.inr (Or.inr ⟨ix, n, ci, hd, h1, h2, h3, h4, h5, h6, h7⟩)
theorem ll_places {ws : List Cond} (ps : List Nat) (hp : ws = ps.filterMap (fun i => lw_tbl[i]?)) (h : ws.all goodWord = true) : ∀ w ∈ ws, w ∈ ll_T := by
  intro w hw
  have h1 := List.all_eq_true.mp h w hw
  rw [hp] at hw
  obtain ⟨i, -, hi⟩ := List.mem_filterMap.mp hw
  exact ll_T_in ⟨List.mem_of_getElem? hi, h1⟩
theorem ll_place {w : Cond} (i : Nat) (hi : lw_tbl[i]? = some w) (h : goodWord w = true) : ll_tb w := ⟨List.mem_of_getElem? hi, h⟩
