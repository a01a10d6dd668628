/-! STEPS ON THE STORE, and that each is the machine's. -/
def ll_T : List Cond := lw_tbl.filter goodWord
theorem ll_T_in {w : Cond} (h : ll_tb w) : w ∈ ll_T := List.mem_filter.mpr ⟨h.1, h.2⟩
theorem ll_T_tb {w : Cond} (h : w ∈ ll_T) : ll_tb w := ⟨(List.mem_filter.mp h).1, (List.mem_filter.mp h).2⟩
def lo_getf (n ci k : Nat) : ll_G := fun ls st σ => match st with
  | .ref i :: r => match σ.2.2 i with
    | .inr (.inr (c, f)) => if c = ci then some (n, ls, f k :: r, σ) else none
    | _ => none
  | _ => none
/-- what a field of kind 0 (int), 1 (boolean), 2 (reference) takes -/
def ll_fit (t : Nat) (v : Value) : Bool := match v with
  | .int x => t == 0 || (t == 1 && (x == 0 || x == 1))
  | .ref _ => t == 2
  | _ => false
def lo_putf (n ci k t : Nat) : ll_G := fun ls st σ => match st with
  | v :: .ref i :: r => match σ.2.2 i with
    | .inr (.inr (c, f)) => if c = ci ∧ ll_fit t v = true then some (n, ls, r, ll_set σ i (.inr (.inr (c, ll_up f k v)))) else none
    | _ => none
  | _ => none
def lo_ald (n t : Nat) : ll_G := fun ls st σ => match st with
  | .int j :: .ref i :: r => match σ.2.2 i with
    | .inl (t', m, f) => if t' = t ∧ ¬ (j < 0 ∨ m ≤ j.toNatClampNeg) then some (n, ls, .int (f j.toNatClampNeg) :: r, σ) else none
    | _ => none
  | _ => none
def lo_ast (n t : Nat) : ll_G := fun ls st σ => match st with
  | .int x :: .int j :: .ref i :: r => match σ.2.2 i with
    | .inl (t', m, f) => if t' = t ∧ ¬ (j < 0 ∨ m ≤ j.toNatClampNeg) then some (n, ls, r, ll_set σ i (.inl (t', m, ll_up f j.toNatClampNeg (vp_nar (ll_ty t) x)))) else none
    | _ => none
  | _ => none
def ll_rf (v : Option Nat) : Value := match v with
  | some a => .ref a
  | none => .null
def lo_aald (n : Nat) : ll_G := fun ls st σ => match st with
  | .int j :: .ref i :: r => match σ.2.2 i with
    | .inr (.inl (_, m, g)) => if ¬ (j < 0 ∨ m ≤ j.toNatClampNeg) then some (n, ls, ll_rf (g j.toNatClampNeg) :: r, σ) else none
    | _ => none
  | _ => none
def lo_aast (n : Nat) : ll_G := fun ls st σ => match st with
  | .ref v :: .int j :: .ref i :: r => match σ.2.2 i with
    | .inr (.inl (t, m, g)) => match σ.2.2 v with
      | .inr (.inr (c, _)) => if c = t ∧ ¬ (j < 0 ∨ m ≤ j.toNatClampNeg) then some (n, ls, r, ll_set σ i (.inr (.inl (t, m, ll_up g j.toNatClampNeg (some v))))) else none
      | _ => none
    | _ => none
  | _ => none
def lo_alen (n : Nat) : ll_G := fun ls st σ => match st with
  | .ref i :: r => match σ.2.2 i with
    | .inl (_, m, _) => some (n, ls, .int (Int32.ofNat m) :: r, σ)
    | .inr (.inl (_, m, _)) => some (n, ls, .int (Int32.ofNat m) :: r, σ)
    | _ => none
  | _ => none
def lo_newa (n t : Nat) : ll_G := fun ls st σ => match st with
  | .int k :: r => if k < 0 ∨ 100000000 < k.toNatClampNeg then none else some (n, ls, .ref σ.1 :: r, ll_add σ k.toNatClampNeg (.inl (t, k.toNatClampNeg, fun _ => 0)))
  | _ => none
def lo_anew (n t : Nat) : ll_G := fun ls st σ => match st with
  | .int k :: r => if k < 0 ∨ 100000000 < k.toNatClampNeg then none else some (n, ls, .ref σ.1 :: r, ll_add σ k.toNatClampNeg (.inr (.inl (t, k.toNatClampNeg, fun _ => none))))
  | _ => none
def lo_new (n ci N : Nat) (fs : List Value) : ll_G := fun ls st σ => some (n, ls, .ref σ.1 :: st, ll_add σ N (.inr (.inr (ci, fun k => fs.getD k .null))))
def lo_init (n : Nat) : ll_G := fun ls st σ => match st with
  | .ref _ :: r => if r.length ≤ 10 then some (n, ls, r, σ) else none
  | _ => none
def lo_copy (n : Nat) : ll_G := fun ls st σ => match st with
  | .int k :: .int dp :: .ref d :: .int sp :: .ref s0 :: r => match σ.2.2 s0, σ.2.2 d with
    | .inl (t0, n0, f), .inl (t1, n1, g) => if t0 = 0 ∧ t1 = 0 ∧ r.length ≤ 4 ∧ ¬ sp < 0 ∧ ¬ dp < 0 ∧ ¬ k < 0 ∧ sp.toNatClampNeg + k.toNatClampNeg ≤ n0 ∧ dp.toNatClampNeg + k.toNatClampNeg ≤ n1 then some (n, ls, r, ll_set σ d (.inl (0, n1, va_cpy f g sp.toNatClampNeg dp.toNatClampNeg k.toNatClampNeg))) else none
    | _, _ => none
  | _ => none
/-- the law's script -/
def lo_sld (n L : Nat) (xs : Nat → Int32) : ll_G := fun ls st σ => match st with
  | .int j :: .float _ :: r => if j < 0 ∨ L ≤ j.toNatClampNeg then none else some (n, ls, .int (xs j.toNatClampNeg) :: r, σ)
  | _ => none
def lo_slen (n L : Nat) : ll_G := fun ls st σ => match st with
  | .float _ :: r => some (n, ls, .int (Int32.ofNat L) :: r, σ)
  | _ => none
section LH
variable {cc : ByteArray} {own : String} {ini lw : Bool} {L : Nat} {xs : Nat → Int32} {pc : Nat}
theorem ll_K1 {D : va_G} {s : State} {cA : ClassId} {ty : FieldType} (hK : va_K D vwCl [] s) (h1 : ArrOfT s cA ty) (h2 : va_RA s cA ty) : va_K D vwCl [(cA, ty)] s := by
  refine ⟨hK.1, fun k q hk => ?_⟩
  have hz : k < 1 := (List.getElem?_eq_some_iff.mp hk).1
  rw [show k = 0 by omega] at hk
  cases hk
  exact ⟨h1, h2⟩
theorem ll_hts {args : Array Value} {s : State} (h : ∀ w, ll_tb w → w.before args s = true) : ∀ w ∈ ll_T, w.before args s = true := fun w hw => h w (ll_T_tb hw)
theorem ll_cat {B : Nat → Prop} {adr : List Nat} : ∀ {st mst : List Value}, ll_st B adr st mst → (mst.map fun v => v.category).sum ≤ 2 * st.length
  | [], [], _ => Nat.le_refl _
  | v :: a, w :: b, h => by
    have h1 := ll_cat h.2
    have h2 : w.category ≤ 2 := by rcases lv_cat w with q | q <;> omega
    simp only [List.map_cons, List.sum_cons, List.length_cons]
    omega
  | [], _ :: _, h => h.elim
  | _ :: _, [], h => h.elim
/-- steps that read the store: 'st' alone changes -/
theorem ll_krd {f : ll_G} (h : ∀ (ls st : List Value) (σ : ll_S) (pc' : Nat) (ls' st' : List Value) (σ1 : ll_S), f ls st σ = some (pc', ls', st', σ1) → ls' = ls ∧ σ1 = σ ∧
    ∀ (B : Nat → Prop) (nL : Nat) (p : Program) (l : Launch) (e : Env) (R : Room) (s : State) (m : MethodId) (args : Array Value) (below : List Frame) (meth : Method) (c : Code) (D : va_G) (A : Nat → Prop) (Q : State → Prop),
    ll_X cc nL own ini lw L xs B p R s m args meth c D A → ∀ (adr : List Nat) (ws : va_W) (mls : Array Slot) (mst : List Value) (H : Heap) (locs : List Loc) (cells slots : Nat), ll_W B s D A adr ws σ H → va_S A s.heap H locs → mls.size = nL → ll_st B adr st mst →
      ∃ mst', ll_st B adr st' mst' ∧ (W p l e R s m args below meth c H locs cells slots Q (F0 m pc' mls mst') → W p l e R s m args below meth c H locs cells slots Q (F0 m pc mls mst))) : ll_K cc own ini lw L xs pc f := by
  intro ls st σ pc' ls' st' σ1 hf
  obtain ⟨rfl, rfl, h3⟩ := h ls st σ pc' ls' st' σ1 hf
  refine ⟨⟨Nat.le_refl _, Nat.le_refl _⟩, ?_⟩
  intro B nL p l e R s m args below meth c D A Q cx adr ws mls mst H locs cells slots hW hS hL hst _ _ kk
  obtain ⟨mst', q1, q2⟩ := h3 B nL p l e R s m args below meth c D A Q cx adr ws mls mst H locs cells slots hW hS (by obtain ⟨-, lv, q, -⟩ := hL; exact q.1) hst
  have k2 := kk adr ws mls mst' H locs ⟨[], by simp⟩ hW hS hL q1
  rw [Nat.sub_self, Nat.sub_self] at k2
  exact q2 k2
/-- steps that write one cell -/
theorem ll_kwr {f : ll_G} (h : ∀ (ls st : List Value) (σ : ll_S) (pc' : Nat) (ls' st' : List Value) (σ1 : ll_S), f ls st σ = some (pc', ls', st', σ1) → ls' = ls ∧ (σ1.1 = σ.1 ∧ σ1.2.1 = σ.2.1) ∧
    ∀ (B : Nat → Prop) (nL : Nat) (p : Program) (l : Launch) (e : Env) (R : Room) (s : State) (m : MethodId) (args : Array Value) (below : List Frame) (meth : Method) (c : Code) (D : va_G) (A : Nat → Prop) (Q : State → Prop),
    ll_X cc nL own ini lw L xs B p R s m args meth c D A → ∀ (adr : List Nat) (ws : va_W) (mls : Array Slot) (mst : List Value) (H : Heap) (locs : List Loc) (cells slots : Nat), ll_W B s D A adr ws σ H → va_S A s.heap H locs → mls.size = nL → ll_st B adr st mst →
      (∀ (ws' : va_W) (mst' : List Value) (H' : Heap) (locs' : List Loc), ll_W B s D A adr ws' σ1 H' → va_S A s.heap H' locs' → ll_st B adr st' mst' → W p l e R s m args below meth c H' locs' cells slots Q (F0 m pc' mls mst')) → W p l e R s m args below meth c H locs cells slots Q (F0 m pc mls mst)) : ll_K cc own ini lw L xs pc f := by
  intro ls st σ pc' ls' st' σ1 hf
  obtain ⟨rfl, ⟨e1, e2⟩, h3⟩ := h ls st σ pc' ls' st' σ1 hf
  refine ⟨⟨by omega, by omega⟩, ?_⟩
  intro B nL p l e R s m args below meth c D A Q cx adr ws mls mst H locs cells slots hW hS hL hst _ _ kk
  refine h3 B nL p l e R s m args below meth c D A Q cx adr ws mls mst H locs cells slots hW hS (by obtain ⟨-, lv, q, -⟩ := hL; exact q.1) hst fun ws' mst' H' locs' q1 q2 q3 => ?_
  have k2 := kk adr ws' mls mst' H' locs' ⟨[], by simp⟩ q1 q2 hL q3
  rw [e1, e2, Nat.sub_self, Nat.sub_self] at k2
  exact k2
/-- steps that make one cell -/
theorem ll_knw {f : ll_G} (h : ∀ (ls st : List Value) (σ : ll_S) (pc' : Nat) (ls' st' : List Value) (σ1 : ll_S), f ls st σ = some (pc', ls', st', σ1) → ∃ (N : Nat) (c0 : ll_C) (rest : List Value), ls' = ls ∧ σ1 = ll_add σ N c0 ∧ st' = .ref σ.1 :: rest ∧
    ∀ (B : Nat → Prop) (nL : Nat) (p : Program) (l : Launch) (e : Env) (R : Room) (s : State) (m : MethodId) (args : Array Value) (below : List Frame) (meth : Method) (c : Code) (D : va_G) (A : Nat → Prop) (Q : State → Prop),
    ll_X cc nL own ini lw L xs B p R s m args meth c D A → ∀ (adr : List Nat) (ws : va_W) (mls : Array Slot) (mst : List Value) (H : Heap) (locs : List Loc) (cells slots : Nat), ll_W B s D A adr ws σ H → va_S A s.heap H locs → ll_st B adr st mst → cells + 1 ≤ R.cells → slots + N ≤ R.slots →
      (∀ (q : Nat) (e0 : va_E) (mr : List Value) (H' : Heap) (locs' : List Loc), ll_st B adr rest mr → va_P D vwCl (ws ++ [(q, e0)]) H' → va_D A (ws ++ [(q, e0)]) → ll_cr B s (adr ++ [q]) c0 e0 → va_S A s.heap H' locs' → W p l e R s m args below meth c H' locs' (cells + 1) (slots + N) Q (F0 m pc' mls (.ref q :: mr))) → W p l e R s m args below meth c H locs cells slots Q (F0 m pc mls mst)) : ll_K cc own ini lw L xs pc f := by
  intro ls st σ pc' ls' st' σ1 hf
  obtain ⟨N, c0, rest, rfl, rfl, rfl, h3⟩ := h ls st σ pc' ls' st' σ1 hf
  have e1 : (ll_add σ N c0).1 - σ.1 = 1 := by simp [ll_add]
  have e2 : (ll_add σ N c0).2.1 - σ.2.1 = N := by simp [ll_add]
  refine ⟨⟨by simp [ll_add], by simp [ll_add]⟩, ?_⟩
  intro B nL p l e R s m args below meth c D A Q cx adr ws mls mst H locs cells slots hW hS hL hst hc hs kk
  rw [e1] at hc kk
  rw [e2] at hs kk
  refine h3 B nL p l e R s m args below meth c D A Q cx adr ws mls mst H locs cells slots hW hS hst hc hs fun q e0 mr H' locs' q1 q2 q3 q4 q5 => ?_
  obtain ⟨w1, w2⟩ := ll_W_new (n := N) hW q2 q3 q4
  exact kk (adr ++ [q]) _ mls (.ref q :: mr) H' locs' ⟨[q], rfl⟩ w1 q5 (ll_L_app hL) ⟨⟨q, w2, rfl⟩, ll_st_app q1⟩
/-! fields -/
theorem lk_getf {ix ci k N : Nat} {C : String} {T : u_T} (hd : decode cc pc = .ok (.getfield ix, 3)) (hc : vwCl[ci]? = some (C, T, N)) (hin : ∀ w ∈ u_ws C T N, w ∈ ll_T) (hk : k < N) (hl : ll_tb (.fieldLink own ix (T k).1 (T k).2.1 (T k).2.2.1)) : ll_K cc own ini lw L xs pc (lo_getf (pc + 3) ci k) := by
  refine ll_krd fun ls st σ pc' ls' st' σ1 hf => ?_
  unfold lo_getf at hf
  split at hf
  · rename_i i r
    split at hf
    · rename_i c0 f hcell
      split at hf
      · rename_i hci
        cases hf
        subst hci
        refine ⟨rfl, rfl, fun B nL p l e R s m args below meth c D A Q cx adr ws mls mst H locs cells slots hW hS _ hst => ?_⟩
        obtain ⟨a, mr, ha, rfl, hr⟩ := ll_st_ref hst
        obtain ⟨e0, hws, hcr⟩ := ll_W_at hW ha
        rw [hcell] at hcr
        obtain ⟨fs, rfl, ⟨q, hq, hlen⟩, hfs⟩ := hcr
        cases hq.symm.trans hc
        have hkl : k < fs.length := by rw [hlen]; exact hk
        have hv := List.getElem?_eq_getElem hkl
        exact ⟨fs[k] :: mr, ⟨hfs k _ hv, hr⟩, fun kk => va_get cx.1 cx.2.1 (ll_hts cx.2.2.2.2.1) hin cx.2.2.2.1 cx.2.2.2.2.2.1 hW.1 i hws hc k hk (cx.2.2.2.2.1 _ hl) (fun _ h9 => h9) hv hd kk⟩
      · cases hf
    · cases hf
  · cases hf
theorem ll_fit_int {B : Nat → Prop} {adr : List Nat} {v w : Value} (h : ll_fit 0 v = true) (hv : ll_v B adr v w) : narrow .int w = w ∧ fits .int w = true := by
  cases v with
  | int x => rw [show w = .int x from hv]; exact ⟨rfl, rfl⟩
  | ref a => simp [ll_fit] at h
  | _ => cases h
theorem ll_fit_bool {B : Nat → Prop} {adr : List Nat} {v w : Value} (h : ll_fit 1 v = true) (hv : ll_v B adr v w) : narrow .boolean w = w ∧ fits .boolean w = true := by
  cases v with
  | int x =>
    rw [show w = .int x from hv]
    have hx : x = 0 ∨ x = 1 := by simpa [ll_fit] using h
    rcases hx with rfl | rfl <;> exact ⟨rfl, rfl⟩
  | ref a => simp [ll_fit] at h
  | _ => cases h
theorem ll_fit_obj {B : Nat → Prop} {adr : List Nat} {v w : Value} {C : String} (h : ll_fit 2 v = true) (hv : ll_v B adr v w) : narrow (.object C) w = w ∧ fits (.object C) w = true := by
  cases v with
  | int x => simp [ll_fit] at h
  | ref a => obtain ⟨b, -, rfl⟩ := hv; exact ⟨rfl, rfl⟩
  | _ => cases h
theorem ll_fit_arr {B : Nat → Prop} {adr : List Nat} {v w : Value} {t : FieldType} (h : ll_fit 2 v = true) (hv : ll_v B adr v w) : narrow (.array t) w = w ∧ fits (.array t) w = true := by
  cases v with
  | int x => simp [ll_fit] at h
  | ref a => obtain ⟨b, -, rfl⟩ := hv; exact ⟨rfl, rfl⟩
  | _ => cases h
/-- the fields of an object with one of them new -/
theorem ll_fs_set {B : Nat → Prop} {adr : List Nat} {f : Nat → Value} {fs : List Value} {k : Nat} {v w : Value} (h : ∀ (k : Nat) (v : Value), fs[k]? = some v → ll_v B adr (f k) v) (hv : ll_v B adr v w) : ∀ (j : Nat) (u : Value), (fs.set k w)[j]? = some u → ll_v B adr (ll_up f k v j) u := by
  intro j u hj
  rw [List.getElem?_set] at hj
  by_cases hkj : k = j
  · subst hkj
    rw [if_pos rfl] at hj
    split at hj
    · cases hj
      rw [ll_up, if_pos rfl]
      exact hv
    · cases hj
  · rw [if_neg hkj] at hj
    rw [ll_up, if_neg (fun q => hkj q.symm)]
    exact h j u hj
theorem lk_putf {ix ci k t N : Nat} {C : String} {T : u_T} {ty0 : Nat → FieldType} (hd : decode cc pc = .ok (.putfield ix, 3)) (hc : vwCl[ci]? = some (C, T, N)) (hin : ∀ w ∈ u_ws C T N, w ∈ ll_T) (hty : ∀ k, k < N → parseFieldDescriptor (T k).2.2.1 = some (ty0 k)) (hnm : ∀ a, a < N → ∀ b, b < N → a ≠ b → (T a).2.1 ≠ (T b).2.1) (hk : k < N) (hl : ll_tb (.fieldLink own ix (T k).1 (T k).2.1 (T k).2.2.1)) (hfit : ∀ (B : Nat → Prop) (adr : List Nat) (v w : Value), ll_fit t v = true → ll_v B adr v w → narrow (ty0 k) w = w ∧ fits (ty0 k) w = true) (hfin : (T k).2.2.2 = false ∨ ((T k).2.2.2 = true ∧ ini = true ∧ (T k).1 = own)) : ll_K cc own ini lw L xs pc (lo_putf (pc + 3) ci k t) := by
  refine ll_kwr fun ls st σ pc' ls' st' σ1 hf => ?_
  unfold lo_putf at hf
  split at hf
  · rename_i v i r
    split at hf
    · rename_i c0 f hcell
      split at hf
      · rename_i hci
        obtain ⟨hci, hvt⟩ := hci
        cases hf
        subst hci
        refine ⟨rfl, ⟨rfl, rfl⟩, fun B nL p l e R s m args below meth c D A Q cx adr ws mls mst H locs cells slots hW hS _ hst kk => ?_⟩
        obtain ⟨w, m1, rfl, hvw, h1⟩ := ll_st_inv hst
        obtain ⟨a, mr, ha, rfl, hr⟩ := ll_st_ref h1
        obtain ⟨e0, hws, hcr⟩ := ll_W_at hW ha
        rw [hcell] at hcr
        obtain ⟨fs, rfl, ⟨q, hq, hlen⟩, hfs⟩ := hcr
        cases hq.symm.trans hc
        have hkl : k < fs.length := by rw [hlen]; exact hk
        obtain ⟨n1, n2⟩ := hfit B adr v w hvt hvw
        have kk' : ∀ (H1 : Heap) (locs1 : List Loc), va_P D vwCl (ws.set i (a, .inr (c0, fs.set k w))) H1 → va_D A (ws.set i (a, .inr (c0, fs.set k w))) → va_S A s.heap H1 locs1 → W p l e R s m args below meth c H1 locs1 cells slots Q (F0 m (pc + 3) mls mr) := fun H1 locs1 g1 g2 g3 => kk _ mr H1 locs1 (ll_W_set hW hws g1 g2 ⟨_, rfl, ⟨_, hc, by rw [List.length_set]; exact hlen⟩, ll_fs_set hfs hvw⟩) g3 hr
        rcases hfin with hfin | ⟨hfin, hini, hdecl⟩
        · exact va_put cx.1 cx.2.1 (ll_hts cx.2.2.2.2.1) hin ty0 hty hnm cx.2.2.2.1 cx.2.2.2.2.2.1 hW.1 hW.2.1 hS i hws hc k hk (cx.2.2.2.2.1 _ hl) (fun _ h9 => h9) hfin (hty k hk) n1 n2 hkl hd kk'
        · exact va_putF cx.1 cx.2.1 (ll_hts cx.2.2.2.2.1) hin ty0 hty hnm cx.2.2.2.1 cx.2.2.2.2.2.1 hW.1 hW.2.1 hS i hws hc k hk (cx.2.2.2.2.1 _ hl) (fun _ h9 => h9) hfin (cx.2.2.2.2.2.2.2.1 hini) hdecl (hty k hk) n1 n2 hkl hd kk'
      · cases hf
    · cases hf
  · cases hf
end LH
