/-- Math.max and Math.min -/
def lo_mm (n : Nat) (g : Int32 → Int32 → Int32) : ll_G := fun ls st σ => match st with
  | .int y :: .int x :: r => if r.length ≤ 10 then some (n, ls, .int (g x y) :: r, σ) else none
  | _ => none
section LH2
variable {cc : ByteArray} {own : String} {ini lw : Bool} {L : Nat} {xs : Nat → Int32} {pc : Nat}
theorem lo_ald_inv {n t : Nat} {ls st : List Value} {σ : ll_S} {r : ll_F} (h : lo_ald n t ls st σ = some r) : ∃ (j : Int32) (i m : Nat) (f : Nat → Int32) (rest : List Value), st = .int j :: .ref i :: rest ∧ σ.2.2 i = .inl (t, m, f) ∧ vp_in j m ∧ r = (n, ls, .int (f j.toNatClampNeg) :: rest, σ) := by
  unfold lo_ald at h
  split at h
  · rename_i j i rest
    split at h
    · rename_i t' m f hc
      split at h
      · rename_i hq
        obtain ⟨rfl, h2⟩ := hq
        exact ⟨j, i, m, f, rest, rfl, hc, h2, (Option.some.inj h).symm⟩
      · cases h
    · cases h
  · cases h
theorem lk_iald (hd : decode cc pc = .ok (.iaload, 1)) : ll_K cc own ini lw L xs pc (lo_ald (pc + 1) 0) := by
  refine ll_krd fun ls st σ pc' ls' st' σ1 hf => ?_
  obtain ⟨j, i, m0, f, rest, rfl, hcell, hin, he⟩ := lo_ald_inv hf
  cases he
  refine ⟨rfl, rfl, fun B nL p l e R s m args below meth c D A Q cx adr ws mls mst H locs cells slots hW hS _ hst => ?_⟩
  obtain ⟨m1, rfl, h1⟩ := ll_st_int hst
  obtain ⟨a, mr, ha, rfl, hr⟩ := ll_st_ref h1
  obtain ⟨e0, hws, hcr⟩ := ll_W_at hW ha
  rw [hcell] at hcr
  obtain ⟨cA, rfl, g1, g2⟩ := hcr
  exact ⟨_ :: mr, ⟨rfl, hr⟩, fun kk => va_iald cx.1 cx.2.1 (ll_K1 cx.2.2.2.2.2.1 g1 g2) hW.1 i 0 hws rfl hin hd kk⟩
theorem lk_zald (hd : decode cc pc = .ok (.baload, 1)) : ll_K cc own ini lw L xs pc (lo_ald (pc + 1) 1) := by
  refine ll_krd fun ls st σ pc' ls' st' σ1 hf => ?_
  obtain ⟨j, i, m0, f, rest, rfl, hcell, hin, he⟩ := lo_ald_inv hf
  cases he
  refine ⟨rfl, rfl, fun B nL p l e R s m args below meth c D A Q cx adr ws mls mst H locs cells slots hW hS _ hst => ?_⟩
  obtain ⟨m1, rfl, h1⟩ := ll_st_int hst
  obtain ⟨a, mr, ha, rfl, hr⟩ := ll_st_ref h1
  obtain ⟨e0, hws, hcr⟩ := ll_W_at hW ha
  rw [hcell] at hcr
  obtain ⟨cA, rfl, g1, g2⟩ := hcr
  exact ⟨_ :: mr, ⟨rfl, hr⟩, fun kk => va_zald cx.1 cx.2.1 (ll_K1 cx.2.2.2.2.2.1 g1 g2) hW.1 i 0 hws rfl hin hd kk⟩
theorem lo_ast_inv {n t : Nat} {ls st : List Value} {σ : ll_S} {r : ll_F} (h : lo_ast n t ls st σ = some r) : ∃ (x j : Int32) (i m : Nat) (f : Nat → Int32) (rest : List Value), st = .int x :: .int j :: .ref i :: rest ∧ σ.2.2 i = .inl (t, m, f) ∧ vp_in j m ∧ r = (n, ls, rest, ll_set σ i (.inl (t, m, ll_up f j.toNatClampNeg (vp_nar (ll_ty t) x)))) := by
  unfold lo_ast at h
  split at h
  · rename_i x j i rest
    split at h
    · rename_i t' m f hc
      split at h
      · rename_i hq
        obtain ⟨rfl, h2⟩ := hq
        exact ⟨x, j, i, m, f, rest, rfl, hc, h2, (Option.some.inj h).symm⟩
      · cases h
    · cases h
  · cases h
theorem lk_iast (hd : decode cc pc = .ok (.iastore, 1)) : ll_K cc own ini lw L xs pc (lo_ast (pc + 1) 0) := by
  refine ll_kwr fun ls st σ pc' ls' st' σ1 hf => ?_
  obtain ⟨x, j, i, m0, f, rest, rfl, hcell, hin, he⟩ := lo_ast_inv hf
  cases he
  refine ⟨rfl, ⟨rfl, rfl⟩, fun B nL p l e R s m args below meth c D A Q cx adr ws mls mst H locs cells slots hW hS _ hst kk => ?_⟩
  obtain ⟨m1, rfl, h1⟩ := ll_st_int hst
  obtain ⟨m2, rfl, h2⟩ := ll_st_int h1
  obtain ⟨a, mr, ha, rfl, hr⟩ := ll_st_ref h2
  obtain ⟨e0, hws, hcr⟩ := ll_W_at hW ha
  rw [hcell] at hcr
  obtain ⟨cA, rfl, g1, g2⟩ := hcr
  exact va_iast cx.1 cx.2.1 (ll_K1 cx.2.2.2.2.2.1 g1 g2) hW.1 hW.2.1 hS i 0 hws rfl hin hd fun H1 locs1 k1 k2 k3 => kk _ mr H1 locs1 (ll_W_set hW hws k1 k2 ⟨cA, rfl, g1, g2⟩) k3 hr
theorem lk_zast (hd : decode cc pc = .ok (.bastore, 1)) : ll_K cc own ini lw L xs pc (lo_ast (pc + 1) 1) := by
  refine ll_kwr fun ls st σ pc' ls' st' σ1 hf => ?_
  obtain ⟨x, j, i, m0, f, rest, rfl, hcell, hin, he⟩ := lo_ast_inv hf
  cases he
  refine ⟨rfl, ⟨rfl, rfl⟩, fun B nL p l e R s m args below meth c D A Q cx adr ws mls mst H locs cells slots hW hS _ hst kk => ?_⟩
  obtain ⟨m1, rfl, h1⟩ := ll_st_int hst
  obtain ⟨m2, rfl, h2⟩ := ll_st_int h1
  obtain ⟨a, mr, ha, rfl, hr⟩ := ll_st_ref h2
  obtain ⟨e0, hws, hcr⟩ := ll_W_at hW ha
  rw [hcell] at hcr
  obtain ⟨cA, rfl, g1, g2⟩ := hcr
  exact va_zast cx.1 cx.2.1 (ll_K1 cx.2.2.2.2.2.1 g1 g2) hW.1 hW.2.1 hS i 0 hws rfl hin hd fun H1 locs1 k1 k2 k3 => kk _ mr H1 locs1 (ll_W_set hW hws k1 k2 ⟨cA, rfl, g1, g2⟩) k3 hr
theorem ll_rf_v {B : Nat → Prop} {adr : List Nat} {v w : Option Nat} (h : ll_q adr v w) : ll_v B adr (ll_rf v) (va_rf w) := by
  cases v with
  | none => rw [show w = none from h]; rfl
  | some i => obtain ⟨a, h1, rfl⟩ := h; exact ⟨a, h1, rfl⟩
theorem lk_aald (hd : decode cc pc = .ok (.aaload, 1)) : ll_K cc own ini lw L xs pc (lo_aald (pc + 1)) := by
  refine ll_krd fun ls st σ pc' ls' st' σ1 hf => ?_
  unfold lo_aald at hf
  split at hf
  · rename_i j i rest
    split at hf
    · rename_i t m0 g hcell
      split at hf
      · rename_i hin
        cases hf
        refine ⟨rfl, rfl, fun B nL p l e R s m args below meth c D A Q cx adr ws mls mst H locs cells slots hW hS _ hst => ?_⟩
        obtain ⟨m1, rfl, h1⟩ := ll_st_int hst
        obtain ⟨a, mr, ha, rfl, hr⟩ := ll_st_ref h1
        obtain ⟨e0, hws, hcr⟩ := ll_W_at hW ha
        rw [hcell] at hcr
        obtain ⟨cA, g', rfl, gq, g1, g2⟩ := hcr
        exact ⟨_ :: mr, ⟨ll_rf_v (gq _), hr⟩, fun kk => va_aldq cx.1 cx.2.1 (ll_K1 cx.2.2.2.2.2.1 g1 g2) hW.1 i 0 hws rfl hin hd kk⟩
      · cases hf
    · cases hf
  · cases hf
theorem lk_aast (hd : decode cc pc = .ok (.aastore, 1)) : ll_K cc own ini lw L xs pc (lo_aast (pc + 1)) := by
  refine ll_kwr fun ls st σ pc' ls' st' σ1 hf => ?_
  unfold lo_aast at hf
  split at hf
  · rename_i v j i rest
    split at hf
    · rename_i t m0 g hcell
      split at hf
      · rename_i c0 f0 hvc
        split at hf
        · rename_i hq
          obtain ⟨rfl, hin⟩ := hq
          cases hf
          refine ⟨rfl, ⟨rfl, rfl⟩, fun B nL p l e R s m args below meth c D A Q cx adr ws mls mst H locs cells slots hW hS _ hst kk => ?_⟩
          obtain ⟨av, m1, hav, rfl, h1⟩ := ll_st_ref hst
          obtain ⟨m2, rfl, h2⟩ := ll_st_int h1
          obtain ⟨a, mr, ha, rfl, hr⟩ := ll_st_ref h2
          obtain ⟨e0, hws, hcr⟩ := ll_W_at hW ha
          rw [hcell] at hcr
          obtain ⟨cA, g', rfl, gq, g1, g2⟩ := hcr
          obtain ⟨ev, hwv, hcv⟩ := ll_W_at hW hav
          rw [hvc] at hcv
          obtain ⟨fs, rfl, ⟨q, hq, hlen⟩, hfs⟩ := hcv
          have hcn : ll_cn c0 = q.1 := by unfold ll_cn; rw [hq]
          have g1' : ArrOfT s cA (.object q.1) := hcn ▸ g1
          have g2' : va_RA s cA (.object q.1) := hcn ▸ g2
          refine va_astq cx.1 cx.2.1 (ll_K1 cx.2.2.2.2.2.1 g1' g2') hW.1 hW.2.1 hS i 0 v c0 hws rfl hwv hq hin hd fun H1 locs1 k1 k2 k3 => kk _ mr H1 locs1 (ll_W_set hW hws k1 k2 ⟨cA, _, rfl, fun j' => ?_, g1, g2⟩) k3 hr
          unfold ll_up va_up
          by_cases hj : j' = j.toNatClampNeg
          · rw [if_pos hj, if_pos hj]; exact ⟨av, hav, rfl⟩
          · rw [if_neg hj, if_neg hj]; exact gq j'
        · cases hf
      · cases hf
    · cases hf
  · cases hf
theorem lk_alen (hd : decode cc pc = .ok (.arraylength, 1)) : ll_K cc own ini lw L xs pc (lo_alen (pc + 1)) := by
  refine ll_krd fun ls st σ pc' ls' st' σ1 hf => ?_
  unfold lo_alen at hf
  split at hf
  · rename_i i rest
    split at hf
    · rename_i t m0 f hcell
      cases hf
      refine ⟨rfl, rfl, fun B nL p l e R s m args below meth c D A Q cx adr ws mls mst H locs cells slots hW hS _ hst => ?_⟩
      obtain ⟨a, mr, ha, rfl, hr⟩ := ll_st_ref hst
      obtain ⟨e0, hws, hcr⟩ := ll_W_at hW ha
      rw [hcell] at hcr
      obtain ⟨cA, rfl, g1, g2⟩ := hcr
      exact ⟨_ :: mr, ⟨rfl, hr⟩, fun kk => va_alen cx.1 cx.2.1 (ll_K1 cx.2.2.2.2.2.1 g1 g2) hW.1 i 0 hws rfl rfl hd kk⟩
    · rename_i t m0 f hcell
      cases hf
      refine ⟨rfl, rfl, fun B nL p l e R s m args below meth c D A Q cx adr ws mls mst H locs cells slots hW hS _ hst => ?_⟩
      obtain ⟨a, mr, ha, rfl, hr⟩ := ll_st_ref hst
      obtain ⟨e0, hws, hcr⟩ := ll_W_at hW ha
      rw [hcell] at hcr
      obtain ⟨cA, g', rfl, gq, g1, g2⟩ := hcr
      exact ⟨_ :: mr, ⟨rfl, hr⟩, fun kk => va_alen cx.1 cx.2.1 (ll_K1 cx.2.2.2.2.2.1 g1 g2) hW.1 i 0 hws rfl rfl hd kk⟩
    · cases hf
  · cases hf
/-! new cells -/
theorem ll_K2 {D : va_G} {s : State} {cA : ClassId} {ty : FieldType} {tys : List (ClassId × FieldType)} (h : va_K D vwCl (tys ++ [(cA, ty)]) s) : ArrOfT s cA ty ∧ va_RA s cA ty := h.2 tys.length (cA, ty) (by simp)
theorem lk_newa_int (hd : decode cc pc = .ok (.newarray .int, 2)) (hw : ll_tb (.arrayClass .int)) : ll_K cc own ini lw L xs pc (lo_newa (pc + 2) 0) := by
  refine ll_knw fun ls st σ pc' ls' st' σ1 hf => ?_
  unfold lo_newa at hf
  split at hf
  · rename_i k rest
    split at hf
    · cases hf
    · rename_i hk
      cases hf
      refine ⟨_, _, rest, rfl, rfl, rfl, fun B nL p l e R s m args below meth c D A Q cx adr ws mls mst H locs cells slots hW hS hst hc hs kk => ?_⟩
      obtain ⟨m1, rfl, h1⟩ := ll_st_int hst
      have hb : k.toNatClampNeg * componentBytes .int ≤ 536870912 := by
        have e1 : componentBytes .int = 4 := rfl
        rw [e1]
        omega
      exact va_newa (ty := .int) (atype := .int) cx.1 cx.2.1 (cx.2.2.2.2.1 _ hw) rfl cx.2.2.2.2.2.1 hW.1 hW.2.1 hS cx.2.2.2.2.2.2.1 (a0 := (k.toNatClampNeg, .inl (fun _ => 0))) (fun cA => rfl) (fun q => hk (Or.inl q)) rfl hb hc hs hd
        fun q cA H1 k0 k1 k2 k3 => kk q _ m1 H1 locs h1 k1 k2 ⟨cA, rfl, (ll_K2 k0).1, (ll_K2 k0).2⟩ k3
  · cases hf
theorem lk_newa_bool (hd : decode cc pc = .ok (.newarray .boolean, 2)) (hw : ll_tb (.arrayClass .boolean)) : ll_K cc own ini lw L xs pc (lo_newa (pc + 2) 1) := by
  refine ll_knw fun ls st σ pc' ls' st' σ1 hf => ?_
  unfold lo_newa at hf
  split at hf
  · rename_i k rest
    split at hf
    · cases hf
    · rename_i hk
      cases hf
      refine ⟨_, _, rest, rfl, rfl, rfl, fun B nL p l e R s m args below meth c D A Q cx adr ws mls mst H locs cells slots hW hS hst hc hs kk => ?_⟩
      obtain ⟨m1, rfl, h1⟩ := ll_st_int hst
      have hb : k.toNatClampNeg * componentBytes .boolean ≤ 536870912 := by
        have e1 : componentBytes .boolean = 1 := rfl
        rw [e1]
        omega
      exact va_newa (ty := .boolean) (atype := .boolean) cx.1 cx.2.1 (cx.2.2.2.2.1 _ hw) rfl cx.2.2.2.2.2.1 hW.1 hW.2.1 hS cx.2.2.2.2.2.2.1 (a0 := (k.toNatClampNeg, .inl (fun _ => 0))) (fun cA => rfl) (fun q => hk (Or.inl q)) rfl hb hc hs hd
        fun q cA H1 k0 k1 k2 k3 => kk q _ m1 H1 locs h1 k1 k2 ⟨cA, rfl, (ll_K2 k0).1, (ll_K2 k0).2⟩ k3
  · cases hf
theorem lk_anew {ix t : Nat} (hd : decode cc pc = .ok (.anewarray ix, 3)) (hw : ll_tb (.classLink own ix (ll_cn t))) (ho : ll_cn t ∈ ll_aos) : ll_K cc own ini lw L xs pc (lo_anew (pc + 3) t) := by
  refine ll_knw fun ls st σ pc' ls' st' σ1 hf => ?_
  unfold lo_anew at hf
  split at hf
  · rename_i k rest
    split at hf
    · cases hf
    · rename_i hk
      cases hf
      refine ⟨_, _, rest, rfl, rfl, rfl, fun B nL p l e R s m args below meth c D A Q cx adr ws mls mst H locs cells slots hW hS hst hc hs kk => ?_⟩
      obtain ⟨m1, rfl, h1⟩ := ll_st_int hst
      exact va_newq cx.1 cx.2.1 cx.2.2.2.1 (cx.2.2.2.2.1 _ hw) (cx.2.2.2.2.2.2.2.2.2.2.2.1 _ ho) cx.2.2.2.2.2.1 hW.1 hW.2.1 hS cx.2.2.2.2.2.2.1 (fun q => hk (Or.inl q)) rfl (by omega) hc hs hd
        fun q cA H1 k0 k1 k2 k3 => kk q _ m1 H1 locs h1 k1 k2 ⟨cA, _, rfl, fun _ => rfl, (ll_K2 k0).1, (ll_K2 k0).2⟩ k3
  · cases hf
theorem lk_new {ix ci N : Nat} {C : String} {T : u_T} {ty0 : Nat → FieldType} {fs : List Value} (hd : decode cc pc = .ok (.new ix, 3)) (hc : vwCl[ci]? = some (C, T, N)) (hin : ∀ w ∈ u_ws C T N, w ∈ ll_T) (hty : ∀ k, k < N → parseFieldDescriptor (T k).2.2.1 = some (ty0 k)) (hw : ll_tb (.classLink own ix C)) (hi : ll_tb (.instantiable C N)) (hn : ll_tb (.initialized C)) (hl : fs.length = N) (hfs : ∀ j, j < N → defaultValue (ty0 j) = vp_V fs j) (hdf : ∀ v ∈ fs, v = .null ∨ v = .int 0) : ll_K cc own ini lw L xs pc (lo_new (pc + 3) ci N fs) := by
  refine ll_knw fun ls st σ pc' ls' st' σ1 hf => ?_
  cases hf
  refine ⟨_, _, st, rfl, rfl, rfl, fun B nL p l e R s m args below meth c D A Q cx adr ws mls mst H locs cells slots hW hS hst hcl hs kk => ?_⟩
  refine va_new (fs := fs) cx.1 cx.2.1 (ll_hts cx.2.2.2.2.1) hin ty0 hty cx.2.2.2.1 (cx.2.2.2.2.1 _ hw) (cx.2.2.2.2.1 _ hi) (cx.2.2.2.2.1 _ hn) cx.2.2.2.2.2.1 hW.1 hW.2.1 hS cx.2.2.2.2.2.2.1 hc hfs hcl hs hd
    fun q H1 k1 k2 k3 => kk q _ mst H1 locs hst k1 k2 ⟨fs, rfl, ⟨_, hc, hl⟩, fun k v hk => ?_⟩ k3
  have h1 : fs.getD k .null = v := by rw [List.getD_eq_getElem?_getD, hk]; rfl
  show ll_v B _ (fs.getD k .null) v
  rw [h1]
  rcases hdf v (List.mem_of_getElem? hk) with rfl | rfl <;> rfl
theorem lk_init {ix : Nat} (hd : decode cc pc = .ok (.invokespecial ix, 3)) (hw : ll_tb (.methodLink own ix Lib.objectInit)) (hi : ll_tb (.instanceMethod Lib.objectInit)) (hcd : ll_tb (.code Lib.objectInit ⟨#[0xb1]⟩ 1 none)) : ll_K cc own ini lw L xs pc (lo_init (pc + 3)) := by
  refine ll_krd fun ls st σ pc' ls' st' σ1 hf => ?_
  unfold lo_init at hf
  split at hf
  · rename_i i rest
    split at hf
    · rename_i hlen
      cases hf
      refine ⟨rfl, rfl, fun B nL p l e R s m args below meth c D A Q cx adr ws mls mst H locs cells slots hW hS hsz hst => ?_⟩
      obtain ⟨a, mr, ha, rfl, hr⟩ := ll_st_ref hst
      have hct := ll_cat hr
      refine ⟨mr, hr, fun kk => W.objInit cx.1 cx.2.1 cx.2.2.2.1 (cx.2.2.2.2.1 _ hw) (cx.2.2.2.2.1 _ hi) (cx.2.2.2.2.1 _ hcd) rfl (hsz.trans cx.2.2.1.symm) rfl hd cx.2.2.2.2.2.2.2.2.1 ?_ kk⟩
      have hR := cx.2.2.2.2.2.2.2.2.2.1
      show 2 * 0 + (mr.map fun v => v.category).sum + 12 ≤ R.locals
      omega
    · cases hf
  · cases hf
theorem lk_copy {ix : Nat} (hd : decode cc pc = .ok (.invokestatic ix, 3)) (hw : ll_tb (.methodLink own ix arraycopyName)) (hn : ll_tb (.native arraycopyName)) (hs : ll_tb (.static arraycopyName)) (hi : ll_tb (.initialized "java/lang/System")) : ll_K cc own ini lw L xs pc (lo_copy (pc + 3)) := by
  refine ll_kwr fun ls st σ pc' ls' st' σ1 hf => ?_
  unfold lo_copy at hf
  split at hf
  · rename_i k dp d sp s0 rest
    split at hf
    · rename_i t0 n0 f t1 n1 g hc0 hc1
      split at hf
      · rename_i hq
        obtain ⟨rfl, rfl, hlen, q1, q2, q3, q4, q5⟩ := hq
        cases hf
        refine ⟨rfl, ⟨rfl, rfl⟩, fun B nL p l e R s m args below meth c D A Q cx adr ws mls mst H locs cells slots hW hS hsz hst kk => ?_⟩
        obtain ⟨m1, rfl, h1⟩ := ll_st_int hst
        obtain ⟨m2, rfl, h2⟩ := ll_st_int h1
        obtain ⟨a1, m3, ha1, rfl, h3⟩ := ll_st_ref h2
        obtain ⟨m4, rfl, h4⟩ := ll_st_int h3
        obtain ⟨a0, mr, ha0, rfl, hr⟩ := ll_st_ref h4
        obtain ⟨e0, hws0, hcr0⟩ := ll_W_at hW ha0
        rw [hc0] at hcr0
        obtain ⟨cA0, rfl, g1, g2⟩ := hcr0
        obtain ⟨e1, hws1, hcr1⟩ := ll_W_at hW ha1
        rw [hc1] at hcr1
        obtain ⟨cA1, rfl, g3, g4⟩ := hcr1
        have hct := ll_cat hr
        have hR := cx.2.2.2.2.2.2.2.2.2.1
        have hKK : va_K D vwCl [(cA0, .int), (cA1, .int)] s := by
          refine ⟨cx.2.2.2.2.2.1.1, fun k q hk => ?_⟩
          match k, hk with
          | 0, hk => cases hk; exact ⟨g1, g2⟩
          | 1, hk => cases hk; exact ⟨g3, g4⟩
          | _ + 2, hk => cases hk
        have hnat : nativeFrameWords "java/lang/System" "arraycopy" 5 ≤ 40 := by decide +kernel
        refine va_copyi cx.1 cx.2.1 (cx.2.2.1.trans hsz.symm) cx.2.2.2.1 (cx.2.2.2.2.1 _ hw) (cx.2.2.2.2.1 _ hn) (cx.2.2.2.2.1 _ hs) (cx.2.2.2.2.1 _ hi) hKK hW.1 hW.2.1 hS s0 d 0 1 hws0 hws1 rfl rfl rfl q1 q2 q3 q4 q5 (fun _ _ => rfl) cx.2.2.2.2.2.2.2.2.1 (by omega) hd fun H1 locs1 k1 k2 k3 => kk _ mr H1 locs1 (ll_W_set hW hws1 k1 k2 ⟨cA1, rfl, g3, g4⟩) k3 hr
      · cases hf
    · cases hf
  · cases hf
theorem lk_sld (hd : decode cc pc = .ok (.iaload, 1)) (hlw : lw = true) : ll_K cc own ini lw L xs pc (lo_sld (pc + 1) L xs) := by
  refine ll_krd fun ls st σ pc' ls' st' σ1 hf => ?_
  unfold lo_sld at hf
  split at hf
  · rename_i j x rest
    split at hf
    · cases hf
    · rename_i hin
      cases hf
      refine ⟨rfl, rfl, fun B nL p l e R s m args below meth c D A Q cx adr ws mls mst H locs cells slots hW hS hsz hst => ?_⟩
      obtain ⟨m1, rfl, h1⟩ := ll_st_int hst
      obtain ⟨w, mr, rfl, ⟨b, hB, rfl⟩, hr⟩ := ll_st_inv h1
      obtain ⟨x1, x2, x3⟩ := cx.2.2.2.2.2.2.2.2.2.2.1 hlw b hB
      exact ⟨_ :: mr, ⟨rfl, hr⟩, fun kk => va_sld cx.1 cx.2.1 x1 x2 x3 hS hin hd kk⟩
  · cases hf
theorem lk_slen (hd : decode cc pc = .ok (.arraylength, 1)) (hlw : lw = true) : ll_K cc own ini lw L xs pc (lo_slen (pc + 1) L) := by
  refine ll_krd fun ls st σ pc' ls' st' σ1 hf => ?_
  unfold lo_slen at hf
  split at hf
  · rename_i x rest
    cases hf
    refine ⟨rfl, rfl, fun B nL p l e R s m args below meth c D A Q cx adr ws mls mst H locs cells slots hW hS hsz hst => ?_⟩
    obtain ⟨w, mr, rfl, ⟨b, hB, rfl⟩, hr⟩ := ll_st_inv hst
    obtain ⟨x1, x2, x3⟩ := cx.2.2.2.2.2.2.2.2.2.2.1 hlw b hB
    exact ⟨_ :: mr, ⟨rfl, hr⟩, fun kk => va_slen cx.1 cx.2.1 x1 x2 x3 hS hd kk⟩
  · cases hf
theorem lk_max {ix : Nat} (hd : decode cc pc = .ok (.invokestatic ix, 3)) (hw : ll_tb (.methodLink own ix Lib.Math.max.name)) (hs : ll_tb (.static Lib.Math.max.name)) (hi : ll_tb (.initialized "java/lang/Math")) (hcd : ll_tb (.code Lib.Math.max.name Lib.Math.max.code 2 (some .int))) : ll_K cc own ini lw L xs pc (lo_mm (pc + 3) (fun x y => if x < y then y else x)) := by
  intro ls st σ pc' ls' st' σ1 hf
  unfold lo_mm at hf
  split at hf
  · rename_i y x rest
    split at hf
    · rename_i hlen
      cases hf
      refine ⟨⟨Nat.le_refl _, Nat.le_refl _⟩, ?_⟩
      intro B nL p l e R s m args below meth c D A Q cx adr ws mls mst H locs cells slots hW hS hL hst hc hsl kk
      rw [Nat.sub_self] at hc hsl
      rw [Nat.sub_self, Nat.sub_self] at kk
      obtain ⟨m1, rfl, h1⟩ := ll_st_int hst
      obtain ⟨m2, rfl, h2⟩ := ll_st_int h1
      have hct := ll_cat h2
      have hR := cx.2.2.2.2.2.2.2.2.2.1
      have hsz : mls.size = nL := by obtain ⟨-, lv, q, -⟩ := hL; exact q.1
      exact va_mmax cx.1 cx.2.1 (cx.2.2.1.trans hsz.symm) cx.2.2.2.1 (cx.2.2.2.2.1 _ hw) (cx.2.2.2.2.1 _ hs) (cx.2.2.2.2.1 _ hi) (cx.2.2.2.2.1 _ hcd) cx.2.2.2.2.2.2.2.2.1 (by omega) (by omega) (by omega) hd (kk adr ws mls (.int _ :: m2) H locs ⟨[], by simp⟩ hW hS hL ⟨rfl, h2⟩)
    · cases hf
  · cases hf
theorem lk_min {ix : Nat} (hd : decode cc pc = .ok (.invokestatic ix, 3)) (hw : ll_tb (.methodLink own ix Lib.Math.min.name)) (hs : ll_tb (.static Lib.Math.min.name)) (hi : ll_tb (.initialized "java/lang/Math")) (hcd : ll_tb (.code Lib.Math.min.name Lib.Math.min.code 2 (some .int))) : ll_K cc own ini lw L xs pc (lo_mm (pc + 3) (fun x y => if y < x then y else x)) := by
  intro ls st σ pc' ls' st' σ1 hf
  unfold lo_mm at hf
  split at hf
  · rename_i y x rest
    split at hf
    · rename_i hlen
      cases hf
      refine ⟨⟨Nat.le_refl _, Nat.le_refl _⟩, ?_⟩
      intro B nL p l e R s m args below meth c D A Q cx adr ws mls mst H locs cells slots hW hS hL hst hc hsl kk
      rw [Nat.sub_self] at hc hsl
      rw [Nat.sub_self, Nat.sub_self] at kk
      obtain ⟨m1, rfl, h1⟩ := ll_st_int hst
      obtain ⟨m2, rfl, h2⟩ := ll_st_int h1
      have hct := ll_cat h2
      have hR := cx.2.2.2.2.2.2.2.2.2.1
      have hsz : mls.size = nL := by obtain ⟨-, lv, q, -⟩ := hL; exact q.1
      exact va_mmin cx.1 cx.2.1 (cx.2.2.1.trans hsz.symm) cx.2.2.2.1 (cx.2.2.2.2.1 _ hw) (cx.2.2.2.2.1 _ hs) (cx.2.2.2.2.1 _ hi) (cx.2.2.2.2.1 _ hcd) cx.2.2.2.2.2.2.2.2.1 (by omega) (by omega) (by omega) hd (kk adr ws mls (.int _ :: m2) H locs ⟨[], by simp⟩ hW hS hL ⟨rfl, h2⟩)
    · cases hf
  · cases hf
end LH2
