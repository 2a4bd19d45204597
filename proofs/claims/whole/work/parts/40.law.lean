def R_law : String := "TemperInHiveLaw"
def lw_P (b : Addr) (xs : List Int32) (args : Array Value) (s : State) : Prop := args = #[.ref b] ∧ s.IntsAt b xs ∧ xs.length ≤ 3072 ∧ (Jvm.Cond.and given_1 narrow_1).before args s = true
def lw_Q (_ : Array Value) (s : State) (o : Outcome) (t : State) : Prop := o = .returned (some (.int 1)) ∧ Framed s o t [] 600000 7302250
def lw_Z (below : List Frame) (a : Array Value) (s : State) : State → Prop := fun t => ∃ o, t.status = .running ∧ Ended t below o ∧ lw_Q a s o t
/-- the law's own end, with 1 on the stack, nothing written that was there before, its room as the claim has it -/
theorem lw_ret {p : Program} {l : Launch} {e : Env} {s : State} {m : MethodId} {below : List Frame} {meth : Method} {c : Code} {b : Nat} (hx : p.tables.exec = Jvm.exec) (hb : c.code = code) (hr : meth.sig.returnType = ret) (hlocks : meth.locks = false) {pc : Nat} {H : Heap} {ls : Array Slot} (hdg : decode code pc = .ok (.ireturn, 1)) : W p l e room_1 s m #[Value.ref b] below meth c H [] 600000 7302250 (lw_Z below #[Value.ref b] s) (F0 m pc ls [.int 1]) := by
  intro T hT X
  obtain ⟨fs, hret, hrun, hended, hW, hframe⟩ := X.leave (v := some (.int 1)) (hlocks := hlocks) (fun h => by rw [hr] at h; cases h)
  have hmeth' : T.vm.method? m = some meth := X.method'
  refine ⟨T.setFrames fs, ?_, .returned (some (.int 1)), hrun, hended, rfl, ⟨_, rfl⟩, hW, hframe⟩
  jvm_step X.here [X.here.top, hx, hb, hdg, hmeth', hr, ret, narrow_b1]
  (try refine ⟨rfl, ?_⟩); (try refine ⟨rfl, ?_⟩)
  first | (intro acts; rw [hret _ acts rfl rfl rfl]) | rw [hret _ _ rfl rfl rfl]
  exact Steps.refl _
/-- what holds at the law's entry -/
def lw_At (p : Program) (s : State) (m : MethodId) (meth : Method) (c : Code) (b L : Nat) (xs : Nat → Int32) : Prop :=
  p.tables.exec = Jvm.exec ∧ c.code = code ∧ meth.sig.returnType = ret ∧ c.maxLocals = 4 ∧ s.vm.findClass R_law = some m.cls ∧ (∀ w ∈ lw_tbl, w.before #[Value.ref b] s = true) ∧ va_X b L xs s s.heap ∧ b < s.heap.size ∧ meth.locks = false ∧ (Jvm.Cond.and given_1 narrow_1).before #[Value.ref b] s = true
theorem lw_tbs {s : State} {args : Array Value} (hts : ∀ w ∈ lw_tbl, w.before args s = true) : ∀ w ∈ tv_tb, w.before args s = true := fun w hw => hts w (List.mem_filter.mp hw).1
theorem lw_nbs {s : State} {args : Array Value} (hts : ∀ w ∈ lw_tbl, w.before args s = true) : ∀ w ∈ tv_nb, va_Nw w s := fun w hw => va_Nw.of (tv_nw_on hw) (hts w (List.mem_filter.mp hw).1)
theorem lw_ao : Cond.arrayOver (.object "TemperInHive$Shelf") ∈ lw_tbl := by decide +kernel
theorem lw_ls0 : Cond.laysStatic "TemperInHive" "OWN_BODIES" "[I" ∈ lw_tbl := by decide +kernel
theorem lw_ls1 : Cond.laysStatic "TemperInHive" "KIND_ABOVE" "[I" ∈ lw_tbl := by decide +kernel
/-- the classes' numbers -/
theorem lw_K {s : State} {args : Array Value} (hts : ∀ w ∈ tv_tb, w.before args s = true) (hao : va_AO "TemperInHive$Shelf" s) : ∃ (G : va_G) (ca : Nat → ClassId), ∀ E : tv_E, tv_G E = G → tv_ca E = ca → va_K (tv_G E) vwCl (tv_tys E) s := by
  have kn : ∀ k : Nat, ∃ (cC : ClassId) (iS : Nat → Nat), ∀ q : vw_C, vwCl[k]? = some q → u_Kn s q.1 q.2.1 q.2.2 cC iS := by
    have one : ∀ {c N : Nat} {C : String} {T : u_T} {n : Nat}, tv_cls c C T N → Cond.instantiable C n ∈ tv_tb → ∃ (cC : ClassId) (iS : Nat → Nat), ∀ q : vw_C, vwCl[c]? = some q → u_Kn s q.1 q.2.1 q.2.2 cC iS := by
      intro c N C T n hc hi
      obtain ⟨cC, iS, h⟩ := u_known (n := n) hts hc.2.2.1 (hts _ hi)
      refine ⟨cC, iS, fun q hq => ?_⟩
      have e := Option.some.inj (hq.symm.trans hc.2.1)
      subst e
      exact h
    intro k
    match k with
    | 0 => exact one tw_c0 tk_0
    | 1 => exact one tw_c1 tk_1
    | 2 => exact one tw_c2 tk_2
    | 3 => exact one tw_c3 tk_3
    | 4 => exact one tw_c4 tk_4
    | 5 => exact one tw_c5 tk_5
    | 6 => exact one tw_c6 tk_6
    | 7 => exact one tw_c7 tk_7
    | 8 => exact one tw_c8 tk_8
    | 9 => exact one tw_c9 tk_9
    | 10 => exact one tw_c10 tk_10
    | 11 => exact one tw_c11 tk_11
    | 12 => exact one tw_c12 tk_12
    | k + 13 => exact ⟨0, fun _ => 0, fun q hq => by simp [vwCl] at hq⟩
  have ar : ∀ ty : FieldType, Cond.arrayClass ty ∈ tv_tb → (∀ cA, s.vm.findClass ("[" ++ ty.toString) = some cA → va_RA s cA ty) → ∃ cA, ArrOfT s cA ty ∧ va_RA s cA ty := by
    intro ty hm hra
    obtain ⟨cA, kA, comp, h1, h2, h3⟩ := Cond.arrayClass_spec (hts _ hm)
    exact ⟨cA, fun N z => ⟨(fun k h => by cases h), kA, h2, comp, h3⟩, hra cA h1⟩
  obtain ⟨a0, b0⟩ := ar .int ta_0 (fun _ h => h)
  obtain ⟨a1, b1⟩ := ar .byte ta_1 (fun _ h => h)
  obtain ⟨a2, b2⟩ := ar .short ta_2 (fun _ h => h)
  obtain ⟨a3, b3⟩ := ar .boolean ta_3 (fun _ h => h)
  obtain ⟨a4, b4⟩ := ar .long ta_4 (fun _ h => h)
  obtain ⟨comp, a5, k5, h1, h2, h3, h4, h5⟩ := Cond.arrayOver_spec hao
  have b5 : ArrOfT s a5 (.object "TemperInHive$Shelf") ∧ va_RA s a5 (.object "TemperInHive$Shelf") := ⟨fun N z => ⟨(fun k h => by cases h), k5, h3, comp, h4⟩, k5, comp, h3, h4, h1, h5⟩
  refine ⟨(fun k => (kn k).choose, fun k => (kn k).choose_spec.choose), fun k => match k with
    | 0 => a0
    | 1 => a1
    | 2 => a2
    | 3 => a3
    | 4 => a4
    | _ => a5, fun E hG hca => ?_⟩
  refine ⟨fun k q hq => ?_, fun k q hq => ?_⟩
  · rw [hG]
    exact (kn k).choose_spec.choose_spec q hq
  · unfold tv_tys at hq
    rw [hca] at hq
    match k with
    | 0 => cases hq; exact b0
    | 1 => cases hq; exact b1
    | 2 => cases hq; exact b2
    | 3 => cases hq; exact b3
    | 4 => cases hq; exact b4
    | 5 => cases hq; exact b5
    | k + 6 => simp at hq
