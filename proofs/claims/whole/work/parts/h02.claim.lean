/-! THE CLAIM, out of the light run of the law. -/
def R_law : String := "InclusionProverLaw"
def lw_P (b : Addr) (xs : List Int32) (args : Array Value) (s : State) : Prop := args = #[.ref b] ∧ s.IntsAt b xs ∧ xs.length ≤ 2560 ∧ (Jvm.Cond.and given_1 narrow_1).before args s = true
def lw_Q (_ : Array Value) (s : State) (o : Outcome) (t : State) : Prop := o = .returned (some (.int 1)) ∧ Framed s o t [] 600000 7302250
def lw_Z (below : List Frame) (a : Array Value) (s : State) : State → Prop := fun t => ∃ o, t.status = .running ∧ Ended t below o ∧ lw_Q a s o t
/-- the law's own end, with 1 on the stack, nothing written that was there before, its room as the claim has it -/
theorem lw_ret {p : Program} {l : Launch} {e : Env} {s : State} {m : MethodId} {below : List Frame} {meth : Method} {c : Code} {b : Nat} (hx : p.tables.exec = Jvm.exec) (hb : c.code = code) (hr : meth.sig.returnType = ret) (hlocks : meth.locks = false) {pc : Nat} {H : Heap} {ls : Array Slot} (hdg : decode code pc = .ok (.ireturn, 1)) : W p l e room_1 s m #[Value.ref b] below meth c H [] 600000 7302250 (lw_Z below #[Value.ref b] s) (F0 m pc ls [.int 1]) := by
  intro T hT X
  obtain ⟨fs, hret, hrun, hended, hW, hframe⟩ := X.leave (v := some (.int 1)) (hlocks := hlocks) (fun h => by rw [hr] at h; cases h)
  have hmeth' : T.vm.method? m = some meth := X.method'
  refine ⟨T.setFrames fs, ?_, .returned (some (.int 1)), hrun, hended, rfl, ⟨_, rfl⟩, hW, hframe⟩
  jvm_step X.here [X.here.top, hx, hb, hdg, hmeth', hr, ret, narrow_b1]
  (try refine ⟨rfl, ?_⟩); (try refine ⟨rfl, ?_⟩)
  first | (intro acts; rw [hret _ acts rfl rfl rfl]) | rw [hret _ _ rfl rfl rfl]
  exact Steps.refl _
/-- what holds at the law's entry: the machine, the code, the tables' words (any of lw_tbl by 'hts w (by decide +kernel)'), the script of L ints xs at the cell b, what the Statement gives of the start (any of its parts by flat_of_before) -/
def lw_At (p : Program) (s : State) (m : MethodId) (meth : Method) (c : Code) (b L : Nat) (xs : Nat → Int32) : Prop :=
  p.tables.exec = Jvm.exec ∧ c.code = code ∧ meth.sig.returnType = ret ∧ c.maxLocals = 4 ∧ s.vm.findClass R_law = some m.cls ∧ (∀ w ∈ lw_tbl, w.before #[Value.ref b] s = true) ∧ va_X b L xs s s.heap ∧ b < s.heap.size ∧ meth.locks = false ∧ (Jvm.Cond.and given_1 narrow_1).before #[Value.ref b] s = true
/-- what the light run of the law must come to -/
def ll_claim : Prop := ∀ (L : Nat) (xs : Nat → Int32), L ≤ 2560 → ∃ (d : Nat) (f : Nat → ll_C) (σ' : ll_S), d ≤ 1000 ∧ ll_E L xs d 232 0 [.float 0, .null, .null, .null] [] (0, 0, f) (some 1) σ' ∧ σ'.1 ≤ 600000 ∧ σ'.2.1 ≤ 7302250
theorem ll_kn {s : State} {args : Array Value} (hts : ∀ w ∈ lw_tbl, w.before args s = true) : ∃ D : va_G, va_K D vwCl [] s := by
  have hT : ∀ w ∈ ll_T, w.before args s = true := fun w hw => hts w (ll_T_tb hw).1
  have hI : ∀ {C : String} {n : Nat}, ll_tb (.instantiable C n) → (Cond.instantiable C n).before args s = true := fun h => hts _ h.1
  have key : ∀ c : Nat, ∃ (cC : ClassId) (iS : Nat → Nat), ∀ q : vw_C, vwCl[c]? = some q → u_Kn s q.1 q.2.1 q.2.2 cC iS := by
    intro c
    match c with
    | 0 =>
      obtain ⟨cC, iS, h⟩ := u_known (C := RX0) (T := TX0) (N := 7) hT in_0 (hI tb_469)
      exact ⟨cC, iS, fun q hq => by cases hq; exact h⟩
    | 1 =>
      obtain ⟨cC, iS, h⟩ := u_known (C := RX1) (T := TX1) (N := 12) hT in_1 (hI tb_155)
      exact ⟨cC, iS, fun q hq => by cases hq; exact h⟩
    | 2 =>
      obtain ⟨cC, iS, h⟩ := u_known (C := RX2) (T := TX2) (N := 5) hT in_2 (hI tb_446)
      exact ⟨cC, iS, fun q hq => by cases hq; exact h⟩
    | 3 =>
      obtain ⟨cC, iS, h⟩ := u_known (C := RX3) (T := TX3) (N := 5) hT in_3 (hI tb_481)
      exact ⟨cC, iS, fun q hq => by cases hq; exact h⟩
    | 4 =>
      obtain ⟨cC, iS, h⟩ := u_known (C := RX4) (T := TX4) (N := 10) hT in_4 (hI tb_463)
      exact ⟨cC, iS, fun q hq => by cases hq; exact h⟩
    | 5 =>
      obtain ⟨cC, iS, h⟩ := u_known (C := RX5) (T := TX5) (N := 11) hT in_5 (hI tb_148)
      exact ⟨cC, iS, fun q hq => by cases hq; exact h⟩
    | 6 =>
      obtain ⟨cC, iS, h⟩ := u_known (C := RX6) (T := TX6) (N := 8) hT in_6 (hI tb_452)
      exact ⟨cC, iS, fun q hq => by cases hq; exact h⟩
    | 7 =>
      obtain ⟨cC, iS, h⟩ := u_known (C := RX7) (T := TX7) (N := 2) hT in_7 (hI tb_69)
      exact ⟨cC, iS, fun q hq => by cases hq; exact h⟩
    | 8 =>
      obtain ⟨cC, iS, h⟩ := u_known (C := RX8) (T := TX8) (N := 10) hT in_8 (hI tb_438)
      exact ⟨cC, iS, fun q hq => by cases hq; exact h⟩
    | 9 =>
      obtain ⟨cC, iS, h⟩ := u_known (C := RX9) (T := TX9) (N := 7) hT in_9 (hI tb_475)
      exact ⟨cC, iS, fun q hq => by cases hq; exact h⟩
    | 10 =>
      obtain ⟨cC, iS, h⟩ := u_known (C := RX10) (T := TX10) (N := 11) hT in_10 (hI tb_822)
      exact ⟨cC, iS, fun q hq => by cases hq; exact h⟩
    | 11 =>
      obtain ⟨cC, iS, h⟩ := u_known (C := RX11) (T := TX11) (N := 46) hT in_11 (hI tb_827)
      exact ⟨cC, iS, fun q hq => by cases hq; exact h⟩
    | _ + 12 => exact ⟨0, fun _ => 0, fun q hq => by cases hq⟩
  exact ⟨(fun c => (key c).choose, fun c => (key c).choose_spec.choose), fun c q hq => (key c).choose_spec.choose_spec q hq, fun k q hk => by cases hk⟩
theorem ll_start (hc : ll_claim) {p : Program} {e : Env} {s : State} {m : MethodId} {below : List Frame} {meth : Method} {c : Code} (l : Launch) {b L : Nat} {xs : Nat → Int32} (hL : L ≤ 2560) (C0 : lw_At p s m meth c b L xs) : W p l e room_1 s m #[Value.ref b] below meth c s.heap [] 0 0 (lw_Z below #[Value.ref b] s) (entryFrame m ([Value.ref b] : List Value).toArray 4) := by
  obtain ⟨hx, hb, hr, hml, hown, hts, hX, hbl, hlocks, -⟩ := C0
  obtain ⟨d, f, σ', hd, ⟨n, hrun⟩, hcells, hslots⟩ := hc L xs hL
  obtain ⟨D, hK⟩ := ll_kn hts
  obtain ⟨-, hbd⟩ := ll_body ll_HM (ll_HP L xs) n d 232 true 0 _ [] _ (some 1) σ' (pk_232 L xs) hrun
  have hZ : ll_Z s := by
    refine ⟨?_, ?_⟩
    · exact List.forall_mem_cons.mpr ⟨va_AO.of (hts _ (List.mem_append_right _ (List.mem_append_left _ (List.mem_of_getElem? (i := 138) rfl)))), List.forall_mem_cons.mpr ⟨va_AO.of (hts _ (List.mem_append_right _ (List.mem_append_right _ (List.mem_append_left _ (List.mem_of_getElem? (i := 124) rfl))))), List.forall_mem_cons.mpr ⟨va_AO.of (hts _ (List.mem_append_right _ (List.mem_append_right _ (List.mem_append_left _ (List.mem_of_getElem? (i := 148) rfl))))), fun _ h => absurd h List.not_mem_nil⟩⟩⟩
    · exact List.forall_mem_cons.mpr ⟨va_Nw.of rfl (hts _ (List.mem_append_right _ (List.mem_append_left _ (List.mem_of_getElem? (i := 140) rfl)))), List.forall_mem_cons.mpr ⟨va_Nw.of rfl (hts _ (List.mem_append_right _ (List.mem_append_left _ (List.mem_of_getElem? (i := 191) rfl)))), List.forall_mem_cons.mpr ⟨va_Nw.of rfl (hts _ (List.mem_append_right _ (List.mem_append_right _ (List.mem_append_left _ (List.mem_of_getElem? (i := 123) rfl))))), List.forall_mem_cons.mpr ⟨va_Nw.of rfl (hts _ (List.mem_append_right _ (List.mem_append_right _ (List.mem_append_left _ (List.mem_of_getElem? (i := 126) rfl))))), fun _ h => absurd h List.not_mem_nil⟩⟩⟩⟩
  have hcx : ll_X (ll_mC 232) (ll_mL 232) (ll_mN 232).cls (ll_mI 232) true L xs (fun b' => b' = b) p room_1 s m #[Value.ref b] meth c D (fun q => s.heap.size ≤ q) := by
    rw [mC_232, mL_232, mN_232, mI_232]
    refine ⟨hx, hb, hml, hown, fun w hw => hts w hw.1, hK, fun q h => h, (fun h => by cases h), Nat.le_of_ble_eq_true rfl, Nat.le_of_ble_eq_true rfl, fun _ b' hb' => ?_, hZ⟩
    subst hb'
    exact ⟨hX, hbl, Nat.not_le.mpr hbl⟩
  have hst : ll_st (fun b' => b' = b) [] [.float 0] [.ref b] := ⟨⟨b, rfl, rfl⟩, trivial⟩
  have hl := lv_entry [Value.ref b] (n := 4) (Nat.le_of_ble_eq_true rfl)
  rw [lg_entry_eq]
  generalize (lg_sl [Value.ref b] ++ List.replicate (4 - (lg_sl [Value.ref b]).length) Slot.unset).toArray = mls at hl ⊢
  have hLL : ll_L (fun b' => b' = b) [] [.float 0, .null, .null, .null] mls (ll_mL 232) := ll_ent_L (as := [.float 0]) (n := 4) hst (Nat.le_of_ble_eq_true rfl) hl
  have hW0 : ll_W (fun b' => b' = b) s D (fun q => s.heap.size ≤ q) [] [] ((0, 0, f) : ll_S) s.heap := by
    refine ⟨?_, ⟨?_, ?_⟩, rfl, rfl, ?_⟩
    · intro k q hk; cases hk
    · intro i j p q hi; cases hi
    · intro k q hk; cases hk
    · intro i a e hi; cases hi
  refine hbd _ p l e room_1 s m _ below meth c D _ _ hcx (by show d + 1 ≤ 2048; omega) (by show 64 * (d + 1) ≤ 84000; omega) [] [] mls [] s.heap [] 0 0 hW0 va_S.rf hLL trivial (by show 0 + (σ'.1 - 0) ≤ 600000; omega) (by show 0 + (σ'.2.1 - 0) ≤ 7302250; omega) ?_
  intro pc' adr' ws' mls' H' locs' hrt hz hW2 hS2
  refine va_forget (fun q hq => hS2.2.2 q hq) ?_
  refine W.widen (k := 600000) (n := 7302250) (by show 0 + (σ'.1 - 0) ≤ 600000; omega) (by show 0 + (σ'.2.1 - 0) ≤ 7302250; omega) ?_
  have hdg := hrt.1
  rw [mC_232] at hdg
  exact lw_ret hx hb hr hlocks hdg
theorem ll_claim_of {GD : sdT → Prop} {D : Nat} (hD : 9 ≤ D) (hD2 : D ≤ 999) (h0 : GD D0) (hp : ∀ (L : Nat) (xs : Nat → Int32), allOK (yY L xs) (Sim GD) D) : ll_claim := by
  intro L xs hL
  obtain ⟨s', h⟩ := law_run hD h0 hp L xs hL
  exact ⟨D + 1, _, sS shX s', by omega, h, by show 219 ≤ 600000; decide, by show 251654 ≤ 7302250; decide⟩
