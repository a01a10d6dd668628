/-! THE LIGHT MACHINE. A store is: how many cells were made, how many slots, and what each cell holds. A reference is the number of its cell. -/
abbrev ll_C : Type := (Nat × Nat × (Nat → Int32)) ⊕ (Nat × Nat × (Nat → Option Nat)) ⊕ (Nat × (Nat → Value))
abbrev ll_S : Type := Nat × Nat × (Nat → ll_C)
abbrev ll_F : Type := Nat × List Value × List Value × ll_S
abbrev ll_G : Type := List Value → List Value → ll_S → Option ll_F
/-- an instruction: a step, a call (method, number of values taken, next), a return (0: none, 1: an int, 2: a boolean) -/
abbrev ll_O : Type := ll_G ⊕ (Nat × Nat × Nat) ⊕ Nat
def ll_up {α : Type} (f : Nat → α) (i : Nat) (x : α) : Nat → α := fun j => if j = i then x else f j
def ll_set (σ : ll_S) (i : Nat) (c : ll_C) : ll_S := (σ.1, σ.2.1, ll_up σ.2.2 i c)
def ll_add (σ : ll_S) (n : Nat) (c : ll_C) : ll_S := (σ.1 + 1, σ.2.1 + n, ll_up σ.2.2 σ.1 c)
def ll_ty (t : Nat) : FieldType := if t = 0 then .int else .boolean
def ll_cn (t : Nat) : String := match vwCl[t]? with
  | some q => q.1
  | none => ""
/-- the light value and the machine's -/
def ll_v (B : Nat → Prop) (adr : List Nat) (v w : Value) : Prop := match v with
  | .ref i => ∃ a, adr[i]? = some a ∧ w = .ref a
  | .float _ => ∃ b, B b ∧ w = .ref b
  | .int x => w = .int x
  | .long x => w = .long x
  | .null => w = .null
  | _ => False
def ll_q (adr : List Nat) (v w : Option Nat) : Prop := match v with
  | some i => ∃ a, adr[i]? = some a ∧ w = some a
  | none => w = none
def ll_st (B : Nat → Prop) (adr : List Nat) : List Value → List Value → Prop
  | [], [] => True
  | v :: a, w :: b => ll_v B adr v w ∧ ll_st B adr a b
  | _, _ => False
def ll_cr (B : Nat → Prop) (U : State) (adr : List Nat) (c : ll_C) (e : va_E) : Prop := match c with
  | .inl (t, n, f) => ∃ cA : ClassId, e = .inl (cA, n, .inl f) ∧ ArrOfT U cA (ll_ty t) ∧ va_RA U cA (ll_ty t)
  | .inr (.inl (t, n, g)) => ∃ (cA : ClassId) (g' : Nat → Option Nat), e = .inl (cA, n, .inr (.inr (.inr (.inr g')))) ∧ (∀ j, ll_q adr (g j) (g' j)) ∧ ArrOfT U cA (.object (ll_cn t)) ∧ va_RA U cA (.object (ll_cn t))
  | .inr (.inr (ci, f)) => ∃ fs : List Value, e = .inr (ci, fs) ∧ (∃ q, vwCl[ci]? = some q ∧ fs.length = q.2.2) ∧ ∀ (k : Nat) (v : Value), fs[k]? = some v → ll_v B adr (f k) v
def ll_W (B : Nat → Prop) (U : State) (D : va_G) (A : Nat → Prop) (adr : List Nat) (ws : va_W) (σ : ll_S) (H : Heap) : Prop :=
  va_P D vwCl ws H ∧ va_D A ws ∧ adr = ws.map Prod.fst ∧ ws.length = σ.1 ∧ ∀ (i a : Nat) (e : va_E), ws[i]? = some (a, e) → ll_cr B U adr (σ.2.2 i) e
def ll_L (B : Nat → Prop) (adr : List Nat) (ls : List Value) (mls : Array Slot) (nL : Nat) : Prop :=
  ls.length = nL ∧ ∃ lv : List (Nat × Value), lv_has mls nL lv ∧ ∀ (i : Nat) (v : Value), ls[i]? = some v → v ≠ .null → ∃ w, (i, w) ∈ lv ∧ ll_v B adr v w
/-- a word of the tables that stays -/
def ll_tb (w : Cond) : Prop := w ∈ lw_tbl ∧ goodWord w = true
/-- what the tables say of arrays of references, and of calls among nest mates: these words are carried by hand -/
def ll_aos : List String := ["InclusionProver$Side", "InclusionProver$Text", "InclusionProver$Room"]
def ll_nws : List (String × Nat × MethodName × String) := [("InclusionProver", 41, yX5_init, "InclusionProver"), ("InclusionProver", 48, yX1_init, "InclusionProver"), ("InclusionProver$Room", 22, yX5_init, "InclusionProver"), ("InclusionProver$Room", 33, yX1_init, "InclusionProver")]
def ll_Z (s : State) : Prop := (∀ C ∈ ll_aos, va_AO C s) ∧ ∀ q ∈ ll_nws, va_Nw (.methodLinkNest q.1 q.2.1 q.2.2.1 q.2.2.2) s
theorem ll_Z_warm {s U : State} (hW : s.WarmedH U.vm) (h : ll_Z s) : ll_Z U := ⟨fun C hC => (h.1 C hC).moved hW.alike, fun q hq => va_Nw.warmM hW (h.2 q hq)⟩
theorem ll_Z_vm {s U : State} (hvm : s.vm = U.vm) (h : ll_Z s) : ll_Z U := ⟨fun C hC => (h.1 C hC).moved (by rw [hvm]; exact Vm.Alike.refl _), fun q hq => va_tabs rfl hvm (h.2 q hq)⟩
/-- what holds throughout a method's body -/
def ll_X (cc : ByteArray) (nL : Nat) (own : String) (ini lw : Bool) (L : Nat) (xs : Nat → Int32) (B : Nat → Prop) (p : Program) (R : Room) (s : State) (m : MethodId) (args : Array Value) (meth : Method) (c : Code) (D : va_G) (A : Nat → Prop) : Prop :=
  p.tables.exec = Jvm.exec ∧ c.code = cc ∧ c.maxLocals = nL ∧ s.vm.findClass own = some m.cls ∧ (∀ w, ll_tb w → w.before args s = true) ∧ va_K D vwCl [] s ∧ (∀ q, s.heap.size ≤ q → A q) ∧ (ini = true → meth.name = "<init>") ∧ 1 ≤ R.frames ∧ 64 ≤ R.locals ∧
  (lw = true → ∀ b, B b → va_X b L xs s s.heap ∧ b < s.heap.size ∧ ¬ A b) ∧ ll_Z s
/-- a step of the light machine is one of the machine's -/
def ll_K (cc : ByteArray) (own : String) (ini lw : Bool) (L : Nat) (xs : Nat → Int32) (pc : Nat) (f : ll_G) : Prop :=
  ∀ (ls st : List Value) (σ : ll_S) (pc' : Nat) (ls' st' : List Value) (σ1 : ll_S), f ls st σ = some (pc', ls', st', σ1) → (σ.1 ≤ σ1.1 ∧ σ.2.1 ≤ σ1.2.1) ∧
    ∀ (B : Nat → Prop) (nL : Nat) (p : Program) (l : Launch) (e : Env) (R : Room) (s : State) (m : MethodId) (args : Array Value) (below : List Frame) (meth : Method) (c : Code) (D : va_G) (A : Nat → Prop) (Q : State → Prop),
    ll_X cc nL own ini lw L xs B p R s m args meth c D A → ∀ (adr : List Nat) (ws : va_W) (mls : Array Slot) (mst : List Value) (H : Heap) (locs : List Loc) (cells slots : Nat),
    ll_W B s D A adr ws σ H → va_S A s.heap H locs → ll_L B adr ls mls nL → ll_st B adr st mst → cells + (σ1.1 - σ.1) ≤ R.cells → slots + (σ1.2.1 - σ.2.1) ≤ R.slots →
    (∀ (adr' : List Nat) (ws' : va_W) (mls' : Array Slot) (mst' : List Value) (H' : Heap) (locs' : List Loc), (∃ z, adr' = adr ++ z) → ll_W B s D A adr' ws' σ1 H' → va_S A s.heap H' locs' → ll_L B adr' ls' mls' nL → ll_st B adr' st' mst' →
      W p l e R s m args below meth c H' locs' (cells + (σ1.1 - σ.1)) (slots + (σ1.2.1 - σ.2.1)) Q (F0 m pc' mls' mst')) →
    W p l e R s m args below meth c H locs cells slots Q (F0 m pc mls mst)
/-! small laws -/
theorem ll_v_app {B : Nat → Prop} {adr z : List Nat} {v w : Value} (h : ll_v B adr v w) : ll_v B (adr ++ z) v w := by
  cases v with
  | ref i =>
    obtain ⟨a, h1, h2⟩ := h
    exact ⟨a, by rw [List.getElem?_append_left (List.getElem?_eq_some_iff.mp h1).1]; exact h1, h2⟩
  | _ => exact h
theorem ll_q_app {adr z : List Nat} {v w : Option Nat} (h : ll_q adr v w) : ll_q (adr ++ z) v w := by
  cases v with
  | some i =>
    obtain ⟨a, h1, h2⟩ := h
    exact ⟨a, by rw [List.getElem?_append_left (List.getElem?_eq_some_iff.mp h1).1]; exact h1, h2⟩
  | none => exact h
theorem ll_st_app {B : Nat → Prop} {adr z : List Nat} : ∀ {a b : List Value}, ll_st B adr a b → ll_st B (adr ++ z) a b
  | [], [], _ => trivial
  | _ :: _, _ :: _, h => ⟨ll_v_app h.1, ll_st_app h.2⟩
  | [], _ :: _, h => h.elim
  | _ :: _, [], h => h.elim
theorem ll_st_inv {B : Nat → Prop} {adr : List Nat} {v : Value} {st mst : List Value} (h : ll_st B adr (v :: st) mst) : ∃ w mr, mst = w :: mr ∧ ll_v B adr v w ∧ ll_st B adr st mr := by
  cases mst with
  | nil => exact h.elim
  | cons w mr => exact ⟨w, mr, rfl, h.1, h.2⟩
theorem ll_st_int {B : Nat → Prop} {adr : List Nat} {x : Int32} {st mst : List Value} (h : ll_st B adr (.int x :: st) mst) : ∃ mr, mst = .int x :: mr ∧ ll_st B adr st mr := by
  obtain ⟨w, mr, h1, h2, h3⟩ := ll_st_inv h
  exact ⟨mr, by rw [h1, show w = .int x from h2], h3⟩
theorem ll_st_long {B : Nat → Prop} {adr : List Nat} {x : Int64} {st mst : List Value} (h : ll_st B adr (.long x :: st) mst) : ∃ mr, mst = .long x :: mr ∧ ll_st B adr st mr := by
  obtain ⟨w, mr, h1, h2, h3⟩ := ll_st_inv h
  exact ⟨mr, by rw [h1, show w = .long x from h2], h3⟩
theorem ll_st_ref {B : Nat → Prop} {adr : List Nat} {i : Nat} {st mst : List Value} (h : ll_st B adr (.ref i :: st) mst) : ∃ a mr, adr[i]? = some a ∧ mst = .ref a :: mr ∧ ll_st B adr st mr := by
  obtain ⟨w, mr, h1, ⟨a, h2, h4⟩, h3⟩ := ll_st_inv h
  exact ⟨a, mr, h2, by rw [h1, h4], h3⟩
theorem ll_st_len {B : Nat → Prop} {adr : List Nat} : ∀ {a b : List Value}, ll_st B adr a b → a.length = b.length
  | [], [], _ => rfl
  | _ :: _, _ :: _, h => by simp [ll_st_len h.2]
  | [], _ :: _, h => h.elim
  | _ :: _, [], h => h.elim
theorem ll_cr_app {B : Nat → Prop} {U : State} {adr z : List Nat} {c : ll_C} {e : va_E} (h : ll_cr B U adr c e) : ll_cr B U (adr ++ z) c e := by
  rcases c with ⟨t, n, f⟩ | ⟨t, n, g⟩ | ⟨ci, f⟩
  · exact h
  · obtain ⟨cA, g', h1, h2, h3⟩ := h
    exact ⟨cA, g', h1, fun j => ll_q_app (h2 j), h3⟩
  · obtain ⟨fs, h1, h2, h3⟩ := h
    exact ⟨fs, h1, h2, fun k v hk => ll_v_app (h3 k v hk)⟩
theorem ll_cr_moved {B : Nat → Prop} {u U : State} {adr : List Nat} {c : ll_C} {e : va_E} (hvm : u.vm.Alike U.vm) (h : ll_cr B u adr c e) : ll_cr B U adr c e := by
  rcases c with ⟨t, n, f⟩ | ⟨t, n, g⟩ | ⟨ci, f⟩
  · obtain ⟨cA, h1, h2, h3⟩ := h
    exact ⟨cA, h1, arrOfT_moved hvm h2, h3.moved hvm⟩
  · obtain ⟨cA, g', h1, h2, h3, h4⟩ := h
    exact ⟨cA, g', h1, h2, arrOfT_moved hvm h3, h4.moved hvm⟩
  · exact h
theorem ll_W_moved {B : Nat → Prop} {u U : State} {D : va_G} {A : Nat → Prop} {adr : List Nat} {ws : va_W} {σ : ll_S} {H : Heap} (hvm : u.vm.Alike U.vm) (h : ll_W B u D A adr ws σ H) : ll_W B U D A adr ws σ H :=
  ⟨h.1, h.2.1, h.2.2.1, h.2.2.2.1, fun i a e hi => ll_cr_moved hvm (h.2.2.2.2 i a e hi)⟩
theorem ll_L_app {B : Nat → Prop} {adr z : List Nat} {ls : List Value} {mls : Array Slot} {nL : Nat} (h : ll_L B adr ls mls nL) : ll_L B (adr ++ z) ls mls nL := by
  obtain ⟨h1, lv, h2, h3⟩ := h
  refine ⟨h1, lv, h2, fun i v hi hn => ?_⟩
  obtain ⟨w, q1, q2⟩ := h3 i v hi hn
  exact ⟨w, q1, ll_v_app q2⟩
/-- the cell behind a reference -/
theorem ll_W_at {B : Nat → Prop} {U : State} {D : va_G} {A : Nat → Prop} {adr : List Nat} {ws : va_W} {σ : ll_S} {H : Heap} (h : ll_W B U D A adr ws σ H) {i a : Nat} (hi : adr[i]? = some a) : ∃ e, ws[i]? = some (a, e) ∧ ll_cr B U adr (σ.2.2 i) e := by
  rw [h.2.2.1, List.getElem?_map] at hi
  cases hq : ws[i]? with
  | none => rw [hq] at hi; cases hi
  | some q =>
    rw [hq] at hi
    have e1 : q.1 = a := by simpa using hi
    obtain ⟨q1, q2⟩ := q
    cases e1
    exact ⟨q2, rfl, h.2.2.2.2 i _ _ hq⟩
/-- a cell is written -/
theorem ll_W_set {B : Nat → Prop} {U : State} {D : va_G} {A : Nat → Prop} {adr : List Nat} {ws : va_W} {σ : ll_S} {H H1 : Heap} (h : ll_W B U D A adr ws σ H) {i a : Nat} {e0 e : va_E} {c : ll_C} (hi : ws[i]? = some (a, e0)) (hP : va_P D vwCl (ws.set i (a, e)) H1) (hD : va_D A (ws.set i (a, e))) (hc : ll_cr B U adr c e) : ll_W B U D A adr (ws.set i (a, e)) (ll_set σ i c) H1 := by
  obtain ⟨-, -, h3, h4, h5⟩ := h
  have hlt : i < ws.length := (List.getElem?_eq_some_iff.mp hi).1
  refine ⟨hP, hD, ?_, by rw [List.length_set]; exact h4, fun j b e' hj => ?_⟩
  · rw [h3, List.map_set]
    apply List.ext_getElem?
    intro j
    rw [List.getElem?_set]
    by_cases hj : i = j
    · subst hj
      have hz := (List.getElem?_eq_some_iff.mp hi).2
      simp [hlt, hz]
    · simp [hj]
  · show ll_cr B U adr (ll_up σ.2.2 i c j) e'
    rw [List.getElem?_set] at hj
    by_cases hij : i = j
    · subst hij
      rw [if_pos rfl, if_pos hlt] at hj
      cases hj
      simp only [ll_up, if_true]
      exact hc
    · rw [if_neg hij] at hj
      rw [ll_up, if_neg (fun q => hij q.symm)]
      exact h5 j b e' hj
/-- a cell is made -/
theorem ll_W_new {B : Nat → Prop} {U : State} {D : va_G} {A : Nat → Prop} {adr : List Nat} {ws : va_W} {σ : ll_S} {H H1 : Heap} (h : ll_W B U D A adr ws σ H) {a n : Nat} {e : va_E} {c : ll_C} (hP : va_P D vwCl (ws ++ [(a, e)]) H1) (hD : va_D A (ws ++ [(a, e)])) (hc : ll_cr B U (adr ++ [a]) c e) : ll_W B U D A (adr ++ [a]) (ws ++ [(a, e)]) (ll_add σ n c) H1 ∧ (adr ++ [a])[σ.1]? = some a := by
  obtain ⟨-, -, h3, h4, h5⟩ := h
  have hl : adr.length = σ.1 := by rw [h3, List.length_map]; exact h4
  refine ⟨⟨hP, hD, by rw [h3]; simp, by simp [ll_add, h4], fun j b e' hj => ?_⟩, by rw [← hl]; simp⟩
  show ll_cr B U (adr ++ [a]) (ll_up σ.2.2 σ.1 c j) e'
  by_cases hlt : j < ws.length
  · rw [List.getElem?_append_left hlt] at hj
    rw [ll_up, if_neg (by omega)]
    exact ll_cr_app (h5 j b e' hj)
  · rw [List.getElem?_append_right (by omega)] at hj
    have hz : j - ws.length < 1 := (List.getElem?_eq_some_iff.mp hj).1
    have hj0 : j = σ.1 := by omega
    subst hj0
    rw [h4, Nat.sub_self] at hj
    cases hj
    rw [ll_up, if_pos rfl]
    exact hc
