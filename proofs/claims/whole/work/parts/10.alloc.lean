section TN
variable {l : Launch} {E : tv_E} {d : Nat} {y : tv_Y} {pc : Nat} {ls st : List tv_V} {M : tv_M} {x : Option (Int × tv_M)}
theorem ts_objInit {r idx : Nat} (hl : Cond.methodLink y.1.cls idx objectInit ∈ tv_tb) (hi : Cond.instanceMethod objectInit ∈ tv_tb) (hcd : Cond.code objectInit ⟨#[0xb1]⟩ 1 none ∈ tv_tb) (hls : ls.length = y.2.2.1) (hst : (st.map fun v => (tv_v E v).category).sum ≤ 8) (hd : decode y.2.1 pc = .ok (.invokespecial idx, 3)) (hs : tv_sim l E (d + 1) y (pc + 3) ls st M x) : tv_sim l E (d + 1) y pc ls (tv_R (r + 1) :: st) M x := by
  refine tv_plain (st' := st) (fun o1 o2 => tv_t1 o2) ?_ hs
  intro p e R s m args below meth c Z k j Ls H locs o1 o2 C hlr kk
  have hF : 1 ≤ R.frames := by have := C.2.2.2.2.2.2.2.2.2.2.2.1; omega
  have hL : 2 * (F0 m pc Ls ((tv_R (r + 1) :: st).map (tv_v E))).monitorRoom + ((st.map (tv_v E)).map fun v => v.category).sum + 12 ≤ R.locals := by
    have h1 := C.2.2.2.2.2.2.2.2.2.2.2.2
    have h2 := tv_room (E := E) (st := st) (m := m) (pc := pc) (Ls := Ls) (rest := (tv_R (r + 1) :: st).map (tv_v E)) hst
    omega
  exact W.objInit C.1 C.2.1 C.2.2.2.2.1 (C.2.2.2.2.2.1 _ hl) (C.2.2.2.2.2.1 _ hi) (C.2.2.2.2.2.1 _ hcd) rfl (by rw [C.2.2.1, ← hls]; exact hlr.1) rfl hd hF hL kk
theorem ts_gets {idx q : Nat} {n : String} (hq : (q = 0 ∧ n = "OWN_BODIES") ∨ (q = 1 ∧ n = "KIND_ABOVE")) (hl : Cond.fieldLink y.1.cls idx "TemperInHive" n "[I" ∈ tv_tb) (hd : decode y.2.1 pc = .ok (.getstatic idx, 3)) (hs : tv_sim l E d y (pc + 3) ls (tv_S q :: st) M x) : tv_sim l E d y pc ls st M x := by
  refine tv_mem (st' := tv_S q :: st) (M1 := M) (fun o1 o2 o3 => ⟨tv_c1 trivial o2, o3⟩) rfl ?_ hs
  intro p e R s m args below meth c Z k j Ls H locs o1 o2 o3 C hlr hw hS kk
  have hst := C.2.2.2.2.2.2.2.2.2.1
  rcases hq with ⟨rfl, rfl⟩ | ⟨rfl, rfl⟩
  · exact va_gets C.1 C.2.1 hst.2.1 hS C.2.2.2.2.1 (C.2.2.2.2.2.1 _ hl) (fun _ h => h) hd (kk H locs hw hS)
  · exact va_gets C.1 C.2.1 hst.2.2.1 hS C.2.2.2.2.1 (C.2.2.2.2.2.1 _ hl) (fun _ h => h) hd (kk H locs hw hS)
theorem ts_getsN {idx q : Nat} {n : String} (hq : (q = 0 ∧ n = "OWN_BODIES") ∨ (q = 1 ∧ n = "KIND_ABOVE")) (hl : Cond.fieldLinkNest y.1.cls idx "TemperInHive" n "[I" "TemperInHive" ∈ tv_nb) (hd : decode y.2.1 pc = .ok (.getstatic idx, 3)) (hs : tv_sim l E d y (pc + 3) ls (tv_S q :: st) M x) : tv_sim l E d y pc ls st M x := by
  refine tv_mem (st' := tv_S q :: st) (M1 := M) (fun o1 o2 o3 => ⟨tv_c1 trivial o2, o3⟩) rfl ?_ hs
  intro p e R s m args below meth c Z k j Ls H locs o1 o2 o3 C hlr hw hS kk
  have hst := C.2.2.2.2.2.2.2.2.2.1
  have hl2 : (Cond.fieldLinkNest y.1.cls idx "TemperInHive" n "[I" "TemperInHive").before args s = true := (hst.2.2.2.1 _ hl).use rfl
  rcases hq with ⟨rfl, rfl⟩ | ⟨rfl, rfl⟩
  · exact va_getsN C.1 C.2.1 hst.2.1 hS C.2.2.2.2.1 hl2 (fun _ h => h) hd (kk H locs hw hS)
  · exact va_getsN C.1 C.2.1 hst.2.2.1 hS C.2.2.2.2.1 hl2 (fun _ h => h) hd (kk H locs hw hS)
/-- a new cell: all its places hold 0 -/
def tv_new (M : tv_M) (c n : Nat) : tv_M := (M.1 ++ [(c, n)], fun r j => if r = M.1.length + 1 then 0 else M.2 r j)
theorem tv_ws_new {c n : Nat} : tv_ws E (tv_new M c n) = tv_ws E M ++ [(tv_ad E M.1.length, tv_cell E c n (fun _ => 0))] := by
  apply List.ext_getElem?
  intro i
  have hlen : (tv_ws E M).length = M.1.length := by simp [tv_ws]
  by_cases hi : i < M.1.length
  · rw [List.getElem?_append_left (by rw [hlen]; exact hi)]
    simp only [tv_ws, List.getElem?_mapIdx, tv_new]
    rw [List.getElem?_append_left hi]
    have e : (fun j => if i + 1 = M.1.length + 1 then (0 : Int) else M.2 (i + 1) j) = M.2 (i + 1) := by
      funext j; rw [if_neg (by omega)]
    rw [e]
  · by_cases he : i = M.1.length
    · subst he
      rw [List.getElem?_append_right (by rw [hlen]; exact Nat.le_refl _), hlen, Nat.sub_self]
      rw [tv_ws_at (M := tv_new M c n) (c := c) (n := n) (by simp [tv_new])]
      simp [tv_new]
    · rw [List.getElem?_eq_none (by simp [tv_ws, tv_new]; omega), List.getElem?_eq_none (by simp [tv_ws]; omega)]
theorem tv_okM_new {c n : Nat} (h : tv_okM M) : tv_okM (tv_new M c n) := by
  intro k c' n' h' j
  simp only [tv_new] at h'
  by_cases hk : k < M.1.length
  · rw [List.getElem?_append_left hk] at h'
    have e : (tv_new M c n).2 (k + 1) j = M.2 (k + 1) j := by show (if _ then _ else _) = _; rw [if_neg (by omega)]
    rw [e]
    exact h k c' n' h' j
  · rw [List.getElem?_append_right (by omega)] at h'
    have hz : k - M.1.length < 1 := (List.getElem?_eq_some_iff.mp h').1
    have e : (tv_new M c n).2 (k + 1) j = 0 := by show (if _ then _ else _) = _; rw [if_pos (by omega)]
    rw [e]
    split
    · unfold tv_inl; omega
    · exact tv_in0
theorem tv_mc_new {c n : Nat} : tv_mc (tv_new M c n) = tv_mc M + 1 := by simp [tv_mc, tv_new]
theorem tv_ms_new {c n : Nat} : tv_ms (tv_new M c n) = tv_ms M + n := by simp [tv_ms, tv_new]
/-- a step that makes one cell -/
theorem tv_make {pc' cc nn : Nat} {st' : List tv_V} (hal : tv_al E) (hok : tv_oks st → tv_oks st')
    (h : ∀ (p : Program) (e : Env) (R : Room) (s : State) (m : MethodId) (args : Array Value) (below : List Frame) (meth : Method) (c : Code) (Z : State → Prop) (k j : Nat) (Ls : Array Slot) (H : Heap) (locs : List Loc), tv_oks st → tv_cx E d y p R s m args meth c → tv_wd E M H → H.size = tv_ad E M.1.length → k + 1 ≤ R.cells → j + nn ≤ R.slots →
      (∀ (H1 : Heap), va_at (tv_G E) vwCl (H.size, tv_cell E cc nn (fun _ => 0)) H1 → H1.size = H.size + 1 → (∀ q, q < H.size → H1[q]? = H[q]?) → W p l e R s m args below meth c H1 locs (k + 1) (j + nn) Z (F0 m pc' Ls (st'.map (tv_v E)))) → W p l e R s m args below meth c H locs k j Z (F0 m pc Ls (st.map (tv_v E))))
    (hs : tv_sim l E d y pc' ls st' (tv_new M cc nn) x) : tv_sim l E d y pc ls st M x := by
  intro r M' hx o1 o2 o3
  obtain ⟨a1, a2, a3, a4, a5⟩ := hs r M' hx o1 (hok o2) (tv_okM_new o3)
  rw [tv_mc_new] at a3; rw [tv_ms_new] at a4; rw [tv_mc_new, tv_ms_new] at a5
  refine ⟨a1, a2, by omega, by omega, ?_⟩
  intro p e R s m args below meth c Z k j C hc hj hret Ls H locs hl hw hS
  obtain ⟨hz, hA⟩ := hw.2.2 hal
  refine h p e R s m args below meth c Z k j Ls H locs o2 C hw (hz.trans (tv_al_ad hal _).symm) (by omega) (by omega) (fun H1 e1 z1 oq => ?_)
  have hw1 : tv_wd E (tv_new M cc nn) H1 := by
    refine ⟨?_, fun k hk => hA _ (by rw [tv_al_ad hal]; omega), fun _ => ⟨by simp [tv_new]; omega, hA⟩⟩
    rw [tv_ws_new]
    refine (hw.1.kept (fun i q hq => oq q.1 ?_)).app (fun i q hq => ?_)
    · obtain ⟨h1, h2⟩ := tv_ws_inv hq
      rw [h2, hz, tv_al_ad hal]; omega
    · have hi : i < 1 := (List.getElem?_eq_some_iff.mp hq).1
      rw [show i = 0 by omega] at hq
      cases hq
      rw [hz, ← tv_al_ad hal] at e1
      exact e1
  have hS1 : va_S (tv_A E) s.heap H1 locs := ⟨Nat.le_trans hS.1 (by omega), fun q h1 h2 => (oq q (Nat.lt_of_lt_of_le h1 hS.1)).trans (hS.2.1 q h1 h2), hS.2.2⟩
  have ec : k + 1 + (tv_mc M' - (tv_mc M + 1)) = k + (tv_mc M' - tv_mc M) := by omega
  have ej : j + nn + (tv_ms M' - (tv_ms M + nn)) = j + (tv_ms M' - tv_ms M) := by omega
  exact a5 p e R s m args below meth c Z (k + 1) (j + nn) C (by rw [ec]; exact hc) (by rw [ej]; exact hj) (by rw [ec, ej]; exact hret) Ls H1 locs hl hw1 hS1
theorem tv_fvd {c N : Nat} {C0 : String} {T : u_T} (h : tv_cls c C0 T N) : ∀ j, j < N → (tv_isR (tv_ty c j) = true ∨ tv_ty c j = .int ∨ tv_ty c j = .boolean) → defaultValue (tv_ty c j) = vp_V ((List.range N).map (fun j => tv_fv E (tv_ty c j) 0)) j := by
  intro j hj ht
  have e := tv_fs_at (E := E) (c := c) (n := N) (f := fun _ => 0) hj
  unfold vp_V
  rw [List.getD_eq_getElem?_getD, e]
  rcases ht with ht | ht | ht
  · simp only [Option.getD_some, tv_fv, ht, if_true]
    cases hq : tv_ty c j <;> (rw [hq] at ht; first | (simp [tv_isR] at ht; done) | rfl)
  · rw [ht]; rfl
  · rw [ht]; rfl
theorem ts_new {c N idx : Nat} {C0 : String} {T : u_T} (hal : tv_al E) (hc : tv_cls c C0 T N) (ht : ∀ j, j < N → tv_isR (tv_ty c j) = true ∨ tv_ty c j = .int ∨ tv_ty c j = .boolean) (hl : Cond.classLink y.1.cls idx C0 ∈ tv_tb) (hi : Cond.instantiable C0 N ∈ tv_tb) (hini : Cond.initialized C0 ∈ tv_tb) (hd : decode y.2.1 pc = .ok (.new idx, 3)) (hs : tv_sim l E d y (pc + 3) ls (tv_R (M.1.length + 1) :: st) (tv_new M c N) x) : tv_sim l E d y pc ls st M x := by
  refine tv_make (cc := c) (nn := N) (st' := tv_R (M.1.length + 1) :: st) hal (fun o2 => tv_c1 trivial o2) ?_ hs
  intro p e R s m args below meth c' Z k j Ls H locs o2 C hw hz hk hj kk
  have hK := C.2.2.2.2.2.2.2.2.1
  have hts := C.2.2.2.2.2.1
  have hKn := hK.1 c _ hc.2.1
  refine W.newcK C.1 C.2.1 C.2.2.2.2.1 (hts _ hl) (hts _ hi) (hts _ hini) rfl hd hk hj hKn.2.1 rfl fun H1 kC hkC e1 z1 o1 => ?_
  have hf := kk H1 ?_ z1 o1
  · rw [hz]; exact hf
  · rw [tv_cell_obj hc.1]
    exact ⟨_, hc.2.1, (u_born (tv_ty c) hts hc.2.2.1 hKn hkC e1 hc.2.2.2.1).to (fun j hj => tv_fvd hc j hj (ht j hj))⟩
theorem tv_narr {cA : ClassId} {s : State} {k : Nat} {ty : FieldType} {ca : ClassId} (hK : va_K (tv_G E) vwCl (tv_tys E) s) (hk : (tv_tys E)[k]? = some (ca, ty)) (hty : va_RA s cA ty → s.vm.findClass ("[" ++ ty.toString) = some cA) (h2 : va_RA s ca ty → s.vm.findClass ("[" ++ ty.toString) = some ca) (hN : s.vm.findClass ("[" ++ ty.toString) = some cA) : cA = ca :=
  Option.some.inj (hN.symm.trans (h2 (hK.2 k _ hk).2))
theorem ts_newa {c n : Nat} {a : Int} {t : ArrayType} {q : Nat} (hal : tv_al E) (hc : Cond.arrayClass (newarray.typeOf t) ∈ tv_tb) (hq : (c = 20 ∧ q = 0 ∧ t = .int) ∨ (c = 21 ∧ q = 1 ∧ t = .byte) ∨ (c = 22 ∧ q = 2 ∧ t = .short) ∨ (c = 23 ∧ q = 3 ∧ t = .boolean) ∨ (c = 24 ∧ q = 4 ∧ t = .long)) (ha : a = (n : Int)) (hn : n ≤ 1000) (hd : decode y.2.1 pc = .ok (.newarray t, 2)) (hs : tv_sim l E d y (pc + 2) ls (tv_R (M.1.length + 1) :: st) (tv_new M c n) x) : tv_sim l E d y pc ls (tv_I a :: st) M x := by
  subst ha
  have hin : tv_in (n : Int) := by unfold tv_in; omega
  refine tv_make (cc := c) (nn := n) (st' := tv_R (M.1.length + 1) :: st) hal (fun o2 => tv_c1 trivial (tv_t1 o2)) ?_ hs
  intro p e R s m args below meth c' Z k j Ls H locs o2 C hw hz hk hj kk
  have hK := C.2.2.2.2.2.2.2.2.1
  have hts := C.2.2.2.2.2.1
  have hcl : (Int32.ofInt (n : Int)).toNatClampNeg = n := by rw [tv_nc hin (by omega)]; exact Int.toNat_natCast n
  refine va_newaK C.1 C.2.1 (hts _ hc) rfl hd rfl (fun q => by have := (tv_lt hin tv_in0).mp q; omega) hcl (by rcases hq with ⟨-, -, rfl⟩ | ⟨-, -, rfl⟩ | ⟨-, -, rfl⟩ | ⟨-, -, rfl⟩ | ⟨-, -, rfl⟩ <;> simp [newarray.typeOf, componentBytes] <;> omega) hk hj rfl fun H1 cA e1 z1 o1 hAr hNm => ?_
  have hf := kk H1 ?_ z1 o1
  · rw [hz]; exact hf
  · rcases hq with ⟨rfl, rfl, rfl⟩ | ⟨rfl, rfl, rfl⟩ | ⟨rfl, rfl, rfl⟩ | ⟨rfl, rfl, rfl⟩ | ⟨rfl, rfl, rfl⟩
    · have hcA : cA = tv_ca E 0 := Option.some.inj (hNm.symm.trans (hK.2 0 _ rfl).2)
      rw [tv_cell_i (by omega) (by omega)]; subst hcA; exact e1
    · have hcA : cA = tv_ca E 1 := Option.some.inj (hNm.symm.trans (hK.2 1 _ rfl).2)
      rw [tv_cell_i (by omega) (by omega)]; subst hcA; exact e1
    · have hcA : cA = tv_ca E 2 := Option.some.inj (hNm.symm.trans (hK.2 2 _ rfl).2)
      rw [tv_cell_i (by omega) (by omega)]; subst hcA; exact e1
    · have hcA : cA = tv_ca E 3 := Option.some.inj (hNm.symm.trans (hK.2 3 _ rfl).2)
      rw [tv_cell_i (by omega) (by omega)]; subst hcA; exact e1
    · have hcA : cA = tv_ca E 4 := Option.some.inj (hNm.symm.trans (hK.2 4 _ rfl).2)
      rw [tv_cell_l]; subst hcA; exact e1
theorem ts_newq {idx n : Nat} {a : Int} (hal : tv_al E) (hl : Cond.classLink y.1.cls idx "TemperInHive$Shelf" ∈ tv_tb) (ha : a = (n : Int)) (hn : n ≤ 1000) (hd : decode y.2.1 pc = .ok (.anewarray idx, 3)) (hs : tv_sim l E d y (pc + 3) ls (tv_R (M.1.length + 1) :: st) (tv_new M 25 n) x) : tv_sim l E d y pc ls (tv_I a :: st) M x := by
  subst ha
  have hin : tv_in (n : Int) := by unfold tv_in; omega
  refine tv_make (cc := 25) (nn := n) (st' := tv_R (M.1.length + 1) :: st) hal (fun o2 => tv_c1 trivial (tv_t1 o2)) ?_ hs
  intro p e R s m args below meth c' Z k j Ls H locs o2 C hw hz hk hj kk
  have hK := C.2.2.2.2.2.2.2.2.1
  have hts := C.2.2.2.2.2.1
  have hst := C.2.2.2.2.2.2.2.2.2.1
  have hcl : (Int32.ofInt (n : Int)).toNatClampNeg = n := by rw [tv_nc hin (by omega)]; exact Int.toNat_natCast n
  refine W.anew C.1 C.2.1 C.2.2.2.2.1 (hts _ hl) (va_AO.use hst.2.2.2.2) rfl hd rfl (fun q => by have := (tv_lt hin tv_in0).mp q; omega) (by rw [hcl]; omega) hk (by rw [hcl]; exact hj) fun cA kA comp f1 f2 f3 f4 => ?_
  rw [hcl]
  have hf := kk (H.push ({ cls := cA, slots := Array.replicate n .null, vm := .none } : Cell)) ?_ (Array.size_push _) (fun q hq => by rw [Array.getElem?_push, if_neg (Nat.ne_of_lt hq)])
  · rw [hz]; exact hf
  · obtain ⟨kA', comp', g1, g2, g3, g4⟩ := (hK.2 5 _ rfl).2
    have hcA : cA = tv_ca E 5 := Option.some.inj (f1.symm.trans g4)
    subst hcA
    rw [tv_cell_q]
    show (H.push _)[H.size]? = some (vp_cell _ _)
    rw [Array.getElem?_push_size, vp_cell_q, ← arrV_new]
    rfl
end TN
