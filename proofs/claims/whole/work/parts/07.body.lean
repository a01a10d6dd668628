/-- the return that ends a run with r -/
def ll_rt (mC : Nat → ByteArray) (mR : Nat → Option FieldType) (y pc : Nat) (r : Option Int32) : Prop := match r with
  | none => decode (mC y) pc = .ok (.return_, 1) ∧ mR y = none
  | some x => decode (mC y) pc = .ok (.ireturn, 1) ∧ (mR y = some .int ∨ (mR y = some .boolean ∧ (x = 0 ∨ x = 1)))
/-- from here the machine comes to the return of r, with the store σ' -/
def ll_Bd (mN : Nat → MethodName) (mC : Nat → ByteArray) (mL : Nat → Nat) (mR : Nat → Option FieldType) (mI : Nat → Bool) (L : Nat) (xs : Nat → Int32) (lwf : Bool) (d y pc : Nat) (ls st : List Value) (σ : ll_S) (r : Option Int32) (σ' : ll_S) : Prop :=
  ∀ (B : Nat → Prop) (p : Program) (l : Launch) (e : Env) (R : Room) (s : State) (m : MethodId) (args : Array Value) (below : List Frame) (meth : Method) (c : Code) (D : va_G) (A : Nat → Prop) (Q : State → Prop),
    ll_X (mC y) (mL y) (mN y).cls (mI y) lwf L xs B p R s m args meth c D A → d + 1 ≤ R.frames → 64 * (d + 1) ≤ R.locals → ∀ (adr : List Nat) (ws : va_W) (mls : Array Slot) (mst : List Value) (H : Heap) (locs : List Loc) (cells slots : Nat),
    ll_W B s D A adr ws σ H → va_S A s.heap H locs → ll_L B adr ls mls (mL y) → ll_st B adr st mst → cells + (σ'.1 - σ.1) ≤ R.cells → slots + (σ'.2.1 - σ.2.1) ≤ R.slots →
    (∀ (pc' : Nat) (adr' : List Nat) (ws' : va_W) (mls' : Array Slot) (H' : Heap) (locs' : List Loc), ll_rt mC mR y pc' r → (∃ z, adr' = adr ++ z) → ll_W B s D A adr' ws' σ' H' → va_S A s.heap H' locs' →
      W p l e R s m args below meth c H' locs' (cells + (σ'.1 - σ.1)) (slots + (σ'.2.1 - σ.2.1)) Q (F0 m pc' mls' (r.map Value.int).toList)) →
    W p l e R s m args below meth c H locs cells slots Q (F0 m pc mls mst)
/-- the world behind a call -/
def ll_af (B : Nat → Prop) (D : va_G) (adr : List Nat) (A : Nat → Prop) (σ1 : ll_S) (u : List Nat × va_W) (t : State) : Prop := (∃ z, u.1 = adr ++ z) ∧ ll_W B t D A u.1 u.2 σ1 t.heap
def ll_Qc (B : Nat → Prop) (D : va_G) (adr : List Nat) (A : Nat → Prop) (σ1 : ll_S) (r : Option Int32) : Array Value → State → Outcome → State → Prop := match r with
  | some x => va_Qi (S := List Nat × va_W) (fun y _ => y = x) (ll_af B D adr A σ1) A
  | none => va_Qv (S := List Nat × va_W) (fun _ => True) (ll_af B D adr A σ1) A
section LB
variable {P : Nat → Nat → Option ll_O} {mN : Nat → MethodName} {mC : Nat → ByteArray} {mL : Nat → Nat} {mR : Nat → Option FieldType} {mK : Nat → Option Nat} {mI : Nat → Bool} {cnt L : Nat} {xs : Nat → Int32}
/-- a method's contract out of its light run -/
theorem ll_met {z d : Nat} {as : List Value} {σ σ1 : ll_S} {r : Option Int32} (hb : ll_Bd mN mC mL mR mI L xs false d z 0 (ll_ent (mL z) as) [] σ r σ1) (hm : ll_M mN mC mL mR mI z) (hn : (ll_sl as).length ≤ mL z) (l : Launch) (B : Nat → Prop) (D : va_G) (adr : List Nat) (ws : va_W) (was : List Value) (sz : Nat) (hst : ll_st B adr as was) :
    Met l (mN z) (.code (mN z) (mC z) (mL z) (mR z) :: ll_T) { frames := d + 1, cells := σ1.1 - σ.1, slots := σ1.2.1 - σ.2.1, locals := 64 * (d + 1) } (va_Pc was (fun U => U.heap.size = sz ∧ va_K D vwCl [] U ∧ ll_Z U ∧ ll_W B U D (fun _ => True) adr ws σ U.heap)) (ll_Qc B D adr (va_A ws sz) σ1 r) (σ1.1 - σ.1) (σ1.2.1 - σ.2.1) (va_A ws sz) := by
  refine Met.ofW (cc := mC z) (maxL := mL z) (ret := mR z) hm.2.2.1 rfl ?_
  intro p e s m args below meth c s₁ Bd hml hv
  obtain ⟨rfl, hsz, hK, hZ, hW⟩ := hv
  subst hsz
  have hts := atoms_spec (ws := Cond.code (mN z) (mC z) (mL z) (mR z) :: ll_T) Bd.pre
  have hown : s.vm.findClass (mN z).cls = some m.cls := findClass_of_methodNamed Bd.named
  have hlocks := Bd.notSynchronized
  have hl := lv_entry was (n := mL z) (by rw [ll_sl_len hst]; exact hn)
  rw [lg_entry_eq]
  generalize (lg_sl was ++ List.replicate (mL z - (lg_sl was).length) Slot.unset).toArray = mls at hl ⊢
  have hX : ll_X (mC z) (mL z) (mN z).cls (mI z) false L xs B p (headSpec (Cond.code (mN z) (mC z) (mL z) (mR z) :: ll_T) { frames := d + 1, cells := σ1.1 - σ.1, slots := σ1.2.1 - σ.2.1, locals := 64 * (d + 1) }).room s m was.toArray meth c D (va_A ws s.heap.size) := by
    refine ⟨Bd.exec, Bd.bytes, hml, hown, fun w hw => hts w (List.mem_cons_of_mem _ (ll_T_in hw)), hK, fun q hq => Or.inr hq, fun hi => ?_, ?_, ?_, fun h => (by cases h), hZ⟩
    · rw [(name_of_methodNamed Bd.named Bd.method).1]; exact hm.2.2.2.2.2 hi
    · show 1 ≤ d + 1; omega
    · show 64 ≤ 64 * (d + 1); omega
  have hW' : ll_W B s D (va_A ws s.heap.size) adr ws σ s.heap := ⟨hW.1, hW.2.1.self, hW.2.2⟩
  refine hb B p l e _ s m _ below meth c D (va_A ws s.heap.size) _ hX (Nat.le_refl _) (Nat.le_refl _) adr ws mls [] s.heap [] 0 0 hW' va_S.rf (ll_ent_L hst hn hl) trivial (by rw [Nat.zero_add]; exact Nat.le_refl _) (by rw [Nat.zero_add]; exact Nat.le_refl _) ?_
  intro pc' adr' ws' mls' H' locs' hrt hz hW2 hS2
  rw [Nat.zero_add, Nat.zero_add]
  cases r with
  | none =>
    obtain ⟨h1, h2⟩ := hrt
    exact W.vret Bd.exec Bd.bytes (Bd.returns.trans h2) (fun t ht hWm => ⟨⟨(adr', ws'), rfl, trivial, hz, by rw [ht]; exact ll_W_moved hWm.alike hW2⟩, hS2.F ht⟩) hS2.2.2 h1
  | some x =>
    obtain ⟨h1, h2⟩ := hrt
    have hq : ∀ t : State, t.heap = H' → s.WarmedH t.vm → ll_Qc B D adr (va_A ws s.heap.size) σ1 (some x) was.toArray s (.returned (some (.int x))) t := fun t ht hWm => ⟨⟨x, (adr', ws'), rfl, rfl, hz, by rw [ht]; exact ll_W_moved hWm.alike hW2⟩, hS2.F ht⟩
    rcases h2 with h2 | ⟨h2, h3⟩
    · exact W.zret (ty := .int) Bd.exec Bd.bytes (Bd.returns.trans h2) rfl hq hS2.2.2 h1
    · exact W.zret (ty := .boolean) Bd.exec Bd.bytes (Bd.returns.trans h2) (by rcases h3 with rfl | rfl <;> rfl) hq hS2.2.2 h1
theorem ll_good {N : MethodName} {bs : ByteArray} {n : Nat} {r : Option FieldType} (h : ll_tb (.code N bs n r)) : GoodIn ll_T (Cond.code N bs n r :: ll_T) := by
  intro w hw
  rcases List.mem_cons.mp hw with rfl | hw
  · exact ⟨ll_T_in h, good_of_word h.2⟩
  · exact ⟨hw, good_of_word (ll_T_tb hw).2⟩
theorem ll_blind {B : Nat → Prop} {D : va_G} {adr : List Nat} {ws : va_W} {was : List Value} {sz : Nat} {σ : ll_S} : FrameBlind (va_Pc was (fun U => U.heap.size = sz ∧ va_K D vwCl [] U ∧ ll_Z U ∧ ll_W B U D (fun _ => True) adr ws σ U.heap)) := by
  intro a U g mk q
  obtain ⟨q0, q1, q2, q3, q4⟩ := q
  exact ⟨q0, q1, va_K.moved (u := U) (U := U.calling g mk a) (Vm.Alike.refl U.vm) q2, ll_Z_vm (s := U) (U := U.calling g mk a) rfl q3, ll_W_moved (u := U) (U := U.calling g mk a) (Vm.Alike.refl U.vm) q4⟩
theorem ll_cat2 {B : Nat → Prop} {adr : List Nat} : ∀ {st mst : List Value}, ll_st B adr st mst → (mst.map fun v => v.category).sum ≤ (ll_sl st).length
  | [], [], _ => Nat.zero_le _
  | v :: a, w :: b, h => by
    have h1 := ll_cat2 h.2
    have h2 : w.category ≤ (if v.category = 2 then [v, Value.null] else [v]).length := by
      rw [ll_v_cat h.1]
      rcases lv_cat w with q | q <;> rw [q] <;> simp
    rw [ll_sl_cons, List.length_append]
    simp only [List.map_cons, List.sum_cons]
    omega
  | [], _ :: _, h => h.elim
  | _ :: _, [], h => h.elim
theorem ll_okc_spec {ci : Option Nat} {nL k : Nat} {st : List Value} {σ : ll_S} (h : ll_okc ci nL k st σ = true) : k ≤ st.length ∧ (ll_sl (st.drop k)).length ≤ 8 ∧ (ll_sl (st.take k).reverse).length ≤ nL ∧ ll_rc ci (st.take k).reverse σ = true := by
  simp only [ll_okc, Bool.and_eq_true, decide_eq_true_eq] at h
  exact h
theorem ll_rc_spec {ci : Nat} {as : List Value} {σ : ll_S} (h : ll_rc (some ci) as σ = true) : ∃ i f rest, as = .ref i :: rest ∧ σ.2.2 i = .inr (.inr (ci, f)) := by
  simp only [ll_rc] at h
  split at h
  · rename_i i rest
    split at h
    · rename_i c' f hc
      have e1 : c' = ci := by simpa using h
      subst e1
      exact ⟨i, f, rest, rfl, hc⟩
    · cases h
  · cases h
/-- a call, whatever its kind -/
theorem ll_call {lwf : Bool} {y z k d pc : Nat} {st : List Value} {σ σ1 : ll_S} {r : Option Int32} (hb : ll_Bd mN mC mL mR mI L xs false d z 0 (ll_ent (mL z) (st.take k).reverse) [] σ r σ1) (hm : ll_M mN mC mL mR mI z) (hok : ll_okc (mK z) (mL z) k st σ = true) (hJ : ll_J (mC y) (mN y).cls pc (mN z) (mK z) (mR z) k)
    {B : Nat → Prop} {p : Program} {l : Launch} {e : Env} {R : Room} {s : State} {m : MethodId} {args : Array Value} {below : List Frame} {meth : Method} {c : Code} {D : va_G} {A : Nat → Prop} {Q : State → Prop} (cx : ll_X (mC y) (mL y) (mN y).cls (mI y) lwf L xs B p R s m args meth c D A) (hfr : d + 2 ≤ R.frames) (hlo : 64 * (d + 2) ≤ R.locals)
    {adr : List Nat} {ws : va_W} {mls : Array Slot} {mst : List Value} {H : Heap} {locs : List Loc} {cells slots : Nat} (hW : ll_W B s D A adr ws σ H) (hS : va_S A s.heap H locs) (hsz : mls.size = mL y) (hst : ll_st B adr st mst) (hc : cells + (σ1.1 - σ.1) ≤ R.cells) (hs : slots + (σ1.2.1 - σ.2.1) ≤ R.slots)
    (kk : ∀ (adr' : List Nat) (ws' : va_W) (mst' : List Value) (H' : Heap) (locs' : List Loc), (∃ z, adr' = adr ++ z) → ll_W B s D A adr' ws' σ1 H' → va_S A s.heap H' locs' → ll_st B adr' ((r.map Value.int).toList ++ st.drop k) mst' → W p l e R s m args below meth c H' locs' (cells + (σ1.1 - σ.1)) (slots + (σ1.2.1 - σ.2.1)) Q (F0 m (pc + 3) mls mst')) :
    W p l e R s m args below meth c H locs cells slots Q (F0 m pc mls mst) := by
  obtain ⟨hk, hd4, hsl, hrc⟩ := ll_okc_spec hok
  obtain ⟨ht1, ht2⟩ := ll_st_take k hst
  have hlen : st.length = mst.length := ll_st_len hst
  have hwas := ll_st_reverse ht1
  have hM := ll_met hb hm hsl l B D adr ws (mst.take k).reverse H.size hwas
  have hA1 : ∀ q, va_A ws H.size q → A q := by
    intro q hq
    rcases hq with ⟨j, e0, hj⟩ | hq
    · exact hW.2.1.2 j _ hj
    · exact cx.2.2.2.2.2.2.1 q (Nat.le_trans hS.1 hq)
  have hroom : (mst.drop k |>.map fun v => v.category).sum ≤ 8 := by
    have := ll_cat2 ht2
    omega
  have hfix : CallFix p m c (mC y) (mL y) s args ll_T (mN y).cls := ⟨cx.1, cx.2.1, cx.2.2.1, cx.2.2.2.1, ll_hts cx.2.2.2.2.1⟩
  have hwl : (mst.take k).reverse.length = k := by rw [List.length_reverse, List.length_take]; omega
  have hsplit : mst = (mst.take k).reverse.reverse ++ mst.drop k := by rw [List.reverse_reverse, List.take_append_drop]
  have hpre : ∀ U : State, U.heap = H → s.WarmedH U.vm → va_Pc (mst.take k).reverse (fun U => U.heap.size = H.size ∧ va_K D vwCl [] U ∧ ll_Z U ∧ ll_W B U D (fun _ => True) adr ws σ U.heap) (mst.take k).reverse.toArray U := fun U hU hWm => ⟨rfl, by rw [hU], va_K.moved hWm.alike cx.2.2.2.2.2.1, ll_Z_warm hWm cx.2.2.2.2.2.2.2.2.2.2.2, by
    rw [hU]
    have := ll_W_moved hWm.alike hW
    exact ⟨this.1, this.2.1.weaken (fun _ _ _ _ => trivial), this.2.2⟩⟩
  generalize hwe : (mst.take k).reverse = was at hM hwas hwl hsplit hpre
  -- the run
  have hRun : va_Run p l e R s m args below meth c H locs cells slots (σ1.1 - σ.1) (σ1.2.1 - σ.2.1) (F0 m pc mls mst) (mst.drop k) (ll_Qc B D adr (va_A ws H.size) σ1 r was.toArray) (va_A ws H.size) := by
    have hR : d + 1 + 1 ≤ R.frames ∧ 8 + (mL z + 11) + 64 * (d + 1) ≤ R.locals := ⟨by omega, by have := hm.2.2.2.2.1; omega⟩
    rcases hJ with ⟨ix, n, ci, q, j1, j2, j3, j4, j5, j6, j7, j8, j9⟩ | ⟨ix, j1, j2, j3, j4⟩ | ⟨ix, n, ci, j1, j2, j3, j4, j5, j6, j7, hmr⟩
    · rw [j5] at hrc
      obtain ⟨i, f, rest, he, hcell⟩ := ll_rc_spec hrc
      rw [he] at hwas
      obtain ⟨b, As, hbi, rfl, hAs⟩ := ll_st_ref hwas
      obtain ⟨e0, hws, hcr⟩ := ll_W_at hW hbi
      rw [hcell] at hcr
      obtain ⟨fs, rfl, -, -⟩ := hcr
      have hcb := callB_of (own := (mN y).cls) (index := ix) (R := R) n (ll_hts cx.2.2.2.2.1) (ll_good hm.1) rfl rfl rfl (cx.2.2.2.2.1 _ hm.2.1) (cx.2.2.2.2.1 _ j2) ⟨hm.2.2.2.1.1, hm.2.2.2.1.2, j9⟩ (rm := { frames := d + 1, cells := σ1.1 - σ.1, slots := σ1.2.1 - σ.2.1, locals := 64 * (d + 1) }) hR
      refine va_runV (C := (mN z).cls) hfix hM ⟨hcb, cx.2.2.2.2.1 _ j3, cx.2.2.2.2.1 _ j4⟩ ⟨ll_blind, ?_, hpre⟩ rfl (by simp only [List.length_cons] at hwl; omega) hsz ?_ (lv_room hroom) j1 ⟨hc, hs⟩
      · have := va_recv cx.2.2.2.2.2.1 hW.1 j6 hws
        rw [j7] at this
        exact this
      · show mst = _
        rw [List.reverse_cons, List.append_assoc] at hsplit
        exact hsplit
    · have hcb := callB_of (own := (mN y).cls) (index := ix) (R := R) k (ll_hts cx.2.2.2.2.1) (ll_good hm.1) rfl rfl rfl (cx.2.2.2.2.1 _ hm.2.1) (cx.2.2.2.2.1 _ j2) ⟨hm.2.2.2.1.1, hm.2.2.2.1.2, j4⟩ (rm := { frames := d + 1, cells := σ1.1 - σ.1, slots := σ1.2.1 - σ.2.1, locals := 64 * (d + 1) }) hR
      exact va_runS hfix hM ⟨hcb, cx.2.2.2.2.1 _ j3⟩ ⟨ll_blind, hpre⟩ rfl hwl hsz hsplit (lv_room hroom) j1 ⟨hc, hs⟩
    · rw [j5] at hrc
      obtain ⟨i, f, rest, he, hcell⟩ := ll_rc_spec hrc
      rw [he] at hwas
      obtain ⟨b, As, hbi, rfl, hAs⟩ := ll_st_ref hwas
      have hm1 := hm.1
      rw [hmr] at hM hm1
      have hspl : mst = As.reverse ++ .ref b :: mst.drop k := by
        rw [List.reverse_cons, List.append_assoc] at hsplit
        exact hsplit
      rcases j2 with j2 | ⟨host, j2⟩
      · have hcb := callB_of (own := (mN y).cls) (index := ix) (R := R) n (ll_hts cx.2.2.2.2.1) (ll_good hm1) rfl rfl rfl (cx.2.2.2.2.1 _ hm.2.1) (cx.2.2.2.2.1 _ j2) ⟨hm.2.2.2.1.1, hm.2.2.2.1.2, j7⟩ (rm := { frames := d + 1, cells := σ1.1 - σ.1, slots := σ1.2.1 - σ.2.1, locals := 64 * (d + 1) }) hR
        exact va_runI hfix hM ⟨hcb, j4, cx.2.2.2.2.1 _ j3⟩ ⟨ll_blind, hpre⟩ rfl (by simp only [List.length_cons] at hwl; omega) hsz hspl (lv_room hroom) j1 ⟨hc, hs⟩
      · have hnw := cx.2.2.2.2.2.2.2.2.2.2.2.2 _ j2
        have hcb := va_cnB (R := R) (own := (mN y).cls) (host := host) (index := ix) n (ll_hts cx.2.2.2.2.1) (ll_good hm1) rfl rfl rfl hnw (cx.2.2.2.2.1 _ hm.2.1) ⟨hm.2.2.2.1.1, hm.2.2.2.1.2, j7⟩ (rm := { frames := d + 1, cells := σ1.1 - σ.1, slots := σ1.2.1 - σ.2.1, locals := 64 * (d + 1) }) hR
        exact va_runIN hfix hM ⟨hcb, j4, cx.2.2.2.2.1 _ j3⟩ ⟨ll_blind, hpre⟩ rfl (by simp only [List.length_cons] at hwl; omega) hsz hspl (lv_room hroom) j1 ⟨hc, hs⟩
  cases r with
  | none =>
    refine va_callv (a := was.toArray) hRun hS (fun q _ h => hA1 q h) hA1 (fun u t H1 locs1 hth hvm _ hB _ _ hS1 => ?_)
    obtain ⟨⟨zz, hzz⟩, hW1⟩ := hB
    rw [hth] at hW1
    have hW1 := ll_W_moved hvm.symm hW1
    refine kk u.1 u.2 (mst.drop k) H1 locs1 ⟨zz, hzz⟩ ⟨hW1.1, hW1.2.1.weaken (fun _ _ _ h => hA1 _ h), hW1.2.2⟩ hS1 ?_
    rw [hzz]
    exact ll_st_app ht2
  | some x =>
    refine va_calli (a := was.toArray) hRun hS (fun q _ h => hA1 q h) hA1 (fun r2 u t H1 locs1 hth hvm hr2 hB _ _ hS1 => ?_)
    obtain ⟨⟨zz, hzz⟩, hW1⟩ := hB
    rw [hth] at hW1
    have hW1 := ll_W_moved hvm.symm hW1
    refine kk u.1 u.2 (.int r2 :: mst.drop k) H1 locs1 ⟨zz, hzz⟩ ⟨hW1.1, hW1.2.1.weaken (fun _ _ _ h => hA1 _ h), hW1.2.2⟩ hS1 ?_
    rw [hzz, hr2]
    exact ⟨rfl, ll_st_app ht2⟩
theorem ll_ret_spec {t : Nat} {st : List Value} {σ : ll_S} {r : Option Int32} {σ' : ll_S} (h : ll_ret t st σ = some (r, σ')) : σ' = σ ∧ ((st = [] ∧ t = 0 ∧ r = none) ∨ ∃ x, st = [.int x] ∧ r = some x ∧ (t = 1 ∨ (t = 2 ∧ (x = 0 ∨ x = 1)))) := by
  unfold ll_ret at h
  split at h
  · split at h
    · rename_i ht
      cases h
      exact ⟨rfl, Or.inl ⟨rfl, ht, rfl⟩⟩
    · cases h
  · rename_i x
    split at h
    · rename_i ht
      cases h
      exact ⟨rfl, Or.inr ⟨x, rfl, rfl, ht⟩⟩
    · cases h
  · cases h
/-- THE LIGHT RUN IS THE MACHINE'S -/
theorem ll_body (HM : ∀ y, y < cnt → ll_M mN mC mL mR mI y) (HP : ∀ y, y < cnt → ∀ pc o, P y pc = some o → ll_OK mN mC mR mK mI cnt L xs false y pc o) : ∀ (fuel : Nat) (d y : Nat) (lwf : Bool) (pc : Nat) (ls st : List Value) (σ : ll_S) (r : Option Int32) (σ' : ll_S),
    (∀ pc o, P y pc = some o → ll_OK mN mC mR mK mI cnt L xs lwf y pc o) → ll_run P mL mK fuel d y pc ls st σ = some (r, σ') → (σ.1 ≤ σ'.1 ∧ σ.2.1 ≤ σ'.2.1) ∧ ll_Bd mN mC mL mR mI L xs lwf d y pc ls st σ r σ' := by
  intro fuel
  induction fuel with
  | zero => intro d y lwf pc ls st σ r σ' _ h; rw [ll_run] at h; cases h
  | succ n ih =>
    intro d y lwf pc ls st σ r σ' hy h
    rw [ll_run.eq_def] at h
    simp only at h
    cases hP : P y pc with
    | none => rw [hP] at h; cases h
    | some o =>
      rw [hP] at h
      have hO := hy pc o hP
      rcases o with f | q | t
      · simp only at h
        cases hf : f ls st σ with
        | none => rw [hf] at h; cases h
        | some r0 =>
          rw [hf] at h
          obtain ⟨pc1, ls1, st1, σ1⟩ := r0
          obtain ⟨⟨a1, a2⟩, k1⟩ := hO ls st σ pc1 ls1 st1 σ1 hf
          obtain ⟨⟨b1, b2⟩, k2⟩ := ih d y lwf pc1 ls1 st1 σ1 r σ' hy h
          refine ⟨⟨Nat.le_trans a1 b1, Nat.le_trans a2 b2⟩, ?_⟩
          intro B p l e R s m args below meth c D A Q cx hfr hlo adr ws mls mst H locs cells slots hW hS hL hst hc hs kk
          refine k1 B (mL y) p l e R s m args below meth c D A Q cx adr ws mls mst H locs cells slots hW hS hL hst (by omega) (by omega) fun adr' ws' mls' mst' H' locs' hz hW' hS' hL' hst' => ?_
          refine k2 B p l e R s m args below meth c D A Q cx hfr hlo adr' ws' mls' mst' H' locs' _ _ hW' hS' hL' hst' (by omega) (by omega) fun pc' adr2 ws2 mls2 H2 locs2 q1 q2 q3 q4 => ?_
          have e1 : cells + (σ1.1 - σ.1) + (σ'.1 - σ1.1) = cells + (σ'.1 - σ.1) := by omega
          have e2 : slots + (σ1.2.1 - σ.2.1) + (σ'.2.1 - σ1.2.1) = slots + (σ'.2.1 - σ.2.1) := by omega
          rw [e1, e2]
          obtain ⟨z1, rfl⟩ := hz
          obtain ⟨z2, rfl⟩ := q2
          exact kk pc' _ ws2 mls2 H2 locs2 q1 ⟨z1 ++ z2, by rw [List.append_assoc]⟩ q3 q4
      · obtain ⟨z, k, n'⟩ := q
        simp only at h
        obtain ⟨rfl, hzc, hJ⟩ := hO
        cases d with
        | zero => cases h
        | succ d' =>
          simp only at h
          split at h
          · rename_i hok
            cases hr : ll_run P mL mK n d' z 0 (ll_ent (mL z) (st.take k).reverse) [] σ with
            | none => rw [hr] at h; cases h
            | some q1 =>
              rw [hr] at h
              obtain ⟨r1, σ1⟩ := q1
              obtain ⟨⟨a1, a2⟩, k1⟩ := ih d' z false 0 _ [] σ r1 σ1 (HP z hzc) hr
              obtain ⟨⟨b1, b2⟩, k2⟩ := ih (d' + 1) y lwf (pc + 3) ls _ σ1 r σ' hy h
              refine ⟨⟨Nat.le_trans a1 b1, Nat.le_trans a2 b2⟩, ?_⟩
              intro B p l e R s m args below meth c D A Q cx hfr hlo adr ws mls mst H locs cells slots hW hS hL hst hc hs kk
              refine ll_call k1 (HM z hzc) hok hJ cx hfr hlo hW hS (by obtain ⟨-, lv, q, -⟩ := hL; exact q.1) hst (by omega) (by omega) fun adr' ws' mst' H' locs' hz hW' hS' hst' => ?_
              obtain ⟨z1, rfl⟩ := hz
              refine k2 B p l e R s m args below meth c D A Q cx hfr hlo _ ws' mls mst' H' locs' _ _ hW' hS' (ll_L_app hL) hst' (by omega) (by omega) fun pc' adr2 ws2 mls2 H2 locs2 q1 q2 q3 q4 => ?_
              have e1 : cells + (σ1.1 - σ.1) + (σ'.1 - σ1.1) = cells + (σ'.1 - σ.1) := by omega
              have e2 : slots + (σ1.2.1 - σ.2.1) + (σ'.2.1 - σ1.2.1) = slots + (σ'.2.1 - σ.2.1) := by omega
              rw [e1, e2]
              obtain ⟨z2, rfl⟩ := q2
              exact kk pc' _ ws2 mls2 H2 locs2 q1 ⟨z1 ++ z2, by rw [List.append_assoc]⟩ q3 q4
          · cases h
      · simp only at h
        obtain ⟨rfl, hc⟩ := ll_ret_spec h
        refine ⟨⟨Nat.le_refl _, Nat.le_refl _⟩, ?_⟩
        intro B p l e R s m args below meth c D A Q cx hfr hlo adr ws mls mst H locs cells slots hW hS hL hst _ _ kk
        rcases hc with ⟨rfl, rfl, rfl⟩ | ⟨x, rfl, rfl, ht⟩
        · cases mst with
          | cons w b => exact hst.elim
          | nil =>
            have := kk pc adr ws mls H locs (hO.1 rfl) ⟨[], by simp⟩ hW hS
            rw [Nat.sub_self, Nat.sub_self] at this
            exact this
        · obtain ⟨m1, rfl, h1⟩ := ll_st_int hst
          cases m1 with
          | cons w b => exact h1.elim
          | nil =>
            have hrt : ll_rt mC mR y pc (some x) := by
              rcases ht with rfl | ⟨rfl, hx⟩
              · exact ⟨(hO.2.1 rfl).1, Or.inl (hO.2.1 rfl).2⟩
              · exact ⟨(hO.2.2 rfl).1, Or.inr ⟨(hO.2.2 rfl).2, hx⟩⟩
            have := kk pc adr ws mls H locs hrt ⟨[], by simp⟩ hW hS
            rw [Nat.sub_self, Nat.sub_self] at this
            exact this
end LB
