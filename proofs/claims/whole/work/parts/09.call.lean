section TC
variable {l : Launch} {E : tv_E} {d : Nat} {y : tv_Y} {pc : Nat} {ls st : List tv_V} {M : tv_M} {x : Option (Int × tv_M)}
def tv_en : List tv_V → List tv_V
  | [] => []
  | .inr (.inl a) :: vs => tv_J a :: tv_U :: tv_en vs
  | v :: vs => v :: tv_en vs
def tv_lo (as : List tv_V) (n : Nat) : List tv_V := tv_en as ++ List.replicate (n - (tv_en as).length) tv_U
theorem tv_en_mem (as : List tv_V) : ∀ (k i : Nat) (v : tv_V), (tv_en as)[i]? = some v → v ≠ tv_U → (k + i, tv_v E v) ∈ lv_args k (as.map (tv_v E)) := by
  induction as with
  | nil => intro k i v h; simp [tv_en] at h
  | cons w ws ih =>
    intro k i v h hv
    have one : ∀ (h1 : tv_en (w :: ws) = w :: tv_en ws) (h2 : (tv_v E w).category = 1), (k + i, tv_v E v) ∈ lv_args k ((w :: ws).map (tv_v E)) := by
      intro h1 h2
      rw [h1] at h
      simp only [List.map_cons, lv_args]
      rw [if_neg (by rw [h2]; decide)]
      cases i with
      | zero =>
        simp at h
        subst h
        exact List.mem_cons_self
      | succ i =>
        simp at h
        refine List.mem_cons_of_mem _ ?_
        have := ih (k + 1) i v h hv
        rwa [show k + 1 + i = k + (i + 1) by omega] at this
    rcases w with a | a | a | a | a
    · exact one rfl rfl
    · simp only [tv_en] at h
      simp only [List.map_cons, lv_args]
      rw [if_pos (by rfl)]
      cases i with
      | zero =>
        simp at h
        subst h
        exact List.mem_cons_self
      | succ i =>
        cases i with
        | zero => simp at h; exact absurd h.symm hv
        | succ i =>
          simp at h
          refine List.mem_cons_of_mem _ ?_
          have := ih (k + 2) i v h hv
          rwa [show k + 2 + i = k + (i + 1 + 1) by omega] at this
    · exact one rfl (by cases a <;> rfl)
    · exact one rfl rfl
    · exact one rfl rfl
theorem tv_en_len (as : List tv_V) : (lg_sl (as.map (tv_v E))).length = (tv_en as).length := by
  induction as with
  | nil => rfl
  | cons w ws ih =>
    have e : ∀ v vs, (lg_sl (v :: vs)).length = (lg_sl [v]).length + (lg_sl vs).length := by
      intro v vs
      simp [lg_sl, List.flatMap_cons]
    rw [List.map_cons, e, ih]
    rcases w with a | a | a | a | a
    · simp [tv_en, tv_v, lg_sl, Value.category]; omega
    · simp [tv_en, tv_v, lg_sl, Value.category]; omega
    · cases a <;> (simp [tv_en, tv_v, lg_sl, Value.category]; omega)
    · simp [tv_en, tv_v, lg_sl, Value.category]; omega
    · simp [tv_en, tv_v, lg_sl, Value.category]; omega
theorem tv_entry (as : List tv_V) {n : Nat} (h : (tv_en as).length ≤ n) : tv_lr E (tv_lo as n) ((lg_sl (as.map (tv_v E)) ++ List.replicate (n - (lg_sl (as.map (tv_v E))).length) Slot.unset).toArray) := by
  have hl := lv_entry (as.map (tv_v E)) (n := n) (by rw [tv_en_len]; exact h)
  refine ⟨?_, hl.2.1, fun i v hi hv => ?_⟩
  · rw [hl.1]; simp [tv_lo]; omega
  · by_cases hlt : i < (tv_en as).length
    · rw [tv_lo, List.getElem?_append_left hlt] at hi
      have h1 := tv_en_mem (E := E) as 0 i v hi hv
      rw [Nat.zero_add] at h1
      exact hl.2.2 _ h1
    · rw [tv_lo, List.getElem?_append_right (by omega)] at hi
      have := List.eq_of_mem_replicate (List.mem_of_getElem? hi)
      exact absurd this hv
theorem tv_en_ok {as : List tv_V} {n : Nat} (h : tv_oks as) : tv_oks (tv_lo as n) := by
  have h1 : tv_oks (tv_en as) := by
    induction as with
    | nil => intro v hv; simp [tv_en] at hv
    | cons w ws ih =>
      have i2 := ih (tv_t1 h)
      rcases w with a | a | a | a | a
      · exact tv_c1 (tv_h1 h) i2
      · exact tv_c1 (tv_h1 h) (tv_c1 (v := tv_U) trivial i2)
      · exact tv_c1 (tv_h1 h) i2
      · exact tv_c1 (tv_h1 h) i2
      · exact tv_c1 (tv_h1 h) i2
  intro v hv
  rcases List.mem_append.mp hv with h2 | h2
  · exact h1 v h2
  · rw [List.eq_of_mem_replicate h2]; trivial
def tv_ws0 (y : tv_Y) : List Cond := Cond.code y.1 y.2.1 y.2.2.1 y.2.2.2 :: tv_tb
def tv_rm (d mc ms : Nat) : Room := { frames := d, cells := mc, slots := ms, locals := 64 * d }
def tv_pc (E : tv_E) (M : tv_M) (U : State) : Prop := tv_wd E M U.heap ∧ va_K (tv_G E) vwCl (tv_tys E) U ∧ tv_st E U U.heap
def tv_Q (E : tv_E) (y : tv_Y) (r : Int) (M' : tv_M) : Array Value → State → Outcome → State → Prop := fun _ st o t => o = .returned (tv_rs y.2.2.2 r).head? ∧ tv_wd E M' t.heap ∧ va_F (tv_A E) st t
/-- the method, called with these values in this memory, answers r and leaves M' -/
def tv_met (l : Launch) (E : tv_E) (d : Nat) (y : tv_Y) (as : List tv_V) (M : tv_M) (r : Int) (M' : tv_M) : Prop :=
  tv_oks as → tv_okM M → tv_okM M' ∧ tv_okr y.2.2.2 r ∧ tv_mc M ≤ tv_mc M' ∧ tv_ms M ≤ tv_ms M' ∧
  Met l y.1 (tv_ws0 y) (tv_rm d (tv_mc M' - tv_mc M) (tv_ms M' - tv_ms M)) (va_Pc (as.map (tv_v E)) (tv_pc E M)) (tv_Q E y r M') (tv_mc M' - tv_mc M) (tv_ms M' - tv_ms M) (tv_A E)
def tv_msim (l : Launch) (E : tv_E) (d : Nat) (y : tv_Y) (as : List tv_V) (M : tv_M) (x : Option (Int × tv_M)) : Prop := ∀ r M', x = some (r, M') → tv_met l E d y as M r M'
theorem tv_F {s t : State} {H : Heap} {locs : List Loc} (hS : va_S (tv_A E) s.heap H locs) (ht : t.heap = H) : va_F (tv_A E) s t := ⟨by rw [ht]; exact hS.1, fun q h1 h2 => by rw [ht]; exact hS.2.1 q h1 h2⟩
theorem tv_meet {as : List tv_V} (hy : plainName y.1.cls = true) (hn : (tv_en as).length ≤ y.2.2.1) (hs : tv_sim l E d y 0 (tv_lo as y.2.2.1) [] M x) : tv_msim l E d y as M x := by
  intro r M' hx o1 o3
  obtain ⟨a1, a2, a3, a4, a5⟩ := hs r M' hx (tv_en_ok o1) (fun v hv => by cases hv) o3
  refine ⟨a1, a2, a3, a4, ?_⟩
  refine Met.ofW (cc := y.2.1) (maxL := y.2.2.1) (ret := y.2.2.2) hy rfl ?_
  intro p e s m args below meth c s₁ B hml hv
  obtain ⟨rfl, hw, hK, hst⟩ := hv
  have hts : ∀ w ∈ tv_ws0 y, w.before ((as.map (tv_v E)).toArray) s = true := atoms_spec (ws := tv_ws0 y) B.pre
  have C : tv_cx E d y p (headSpec (tv_ws0 y) (tv_rm d (tv_mc M' - tv_mc M) (tv_ms M' - tv_ms M))).room s m ((as.map (tv_v E)).toArray) meth c :=
    ⟨B.exec, B.bytes, hml, B.returns, findClass_of_methodNamed B.named, fun w h => hts w (List.mem_cons_of_mem _ h), B.notSynchronized, (name_of_methodNamed B.named B.method).1, hK, hst, trivial, Nat.le_refl _, Nat.le_refl _⟩
  rw [lg_entry_eq]
  have hlocks := B.notSynchronized
  have hret := B.returns
  refine a5 p e _ s m _ below meth c _ 0 0 C (by rw [Nat.zero_add]; exact Nat.le_refl _) (by rw [Nat.zero_add]; exact Nat.le_refl _) ?_ _ s.heap [] (tv_entry as hn) hw va_S.rf
  intro pc' Ls' H' locs' hw' hS' hdec
  rw [Nat.zero_add, Nat.zero_add]
  have hq : ∀ (v : Option Value), (tv_rs y.2.2.2 r).head? = v → ∀ t : State, t.heap = H' → s.WarmedH t.vm → tv_Q E y r M' ((as.map (tv_v E)).toArray) s (.returned v) t := fun v hv t ht _ => ⟨by rw [hv], by rw [ht]; exact hw', tv_F hS' ht⟩
  have key : ∀ rt : Option FieldType, y.2.2.2 = rt → W p l e (headSpec (tv_ws0 y) (tv_rm d (tv_mc M' - tv_mc M) (tv_ms M' - tv_ms M))).room s m ((as.map (tv_v E)).toArray) below meth c H' locs' (tv_mc M' - tv_mc M) (tv_ms M' - tv_ms M) (MQ below (tv_Q E y r M') ((as.map (tv_v E)).toArray) s (tv_mc M' - tv_mc M) (tv_ms M' - tv_ms M) (tv_A E)) (F0 m pc' Ls' (tv_rs y.2.2.2 r)) := by
    intro rt hrt
    rw [hrt] at hdec hq hret a2 ⊢
    cases rt with
    | none => exact W.vret B.exec B.bytes hret (hq none rfl) hS'.2.2 hdec hlocks
    | some ty =>
      cases ty with
      | long => exact W.lret B.exec B.bytes hret (hq _ rfl) hS'.2.2 hdec hlocks
      | int => exact W.iret B.exec B.bytes hret (hq _ rfl) hS'.2.2 hdec hlocks
      | boolean => exact W.zret B.exec B.bytes hret (by rcases a2 with rfl | rfl <;> rfl) (hq _ rfl) hS'.2.2 hdec hlocks
      | _ => exact a2.elim
  exact key _ rfl
def tv_b (F : Option (Int × tv_M)) (K : Int → tv_M → Option (Int × tv_M)) : Option (Int × tv_M) := match F with
  | some (r, M) => K r M
  | none => none
def tv_pu (y : tv_Y) (r : Int) : List tv_V := match y.2.2.2 with
  | none => []
  | some .long => [tv_J r]
  | _ => [tv_I r]
theorem tv_pu_v (y : tv_Y) (r : Int) : (tv_pu y r).map (tv_v E) = (tv_rs y.2.2.2 r).head?.toList := by
  unfold tv_pu tv_rs
  cases h : y.2.2.2 with
  | none => rfl
  | some t => cases t <;> rfl
theorem tv_pu_ok {y : tv_Y} {r : Int} (h : tv_okr y.2.2.2 r) : tv_oks (tv_pu y r) := by
  unfold tv_pu
  unfold tv_okr at h
  cases hy : y.2.2.2 with
  | none => intro v hv; cases hv
  | some t =>
    rw [hy] at h
    cases t with
    | long => exact tv_c1 h (fun v hv => by cases hv)
    | int => exact tv_c1 h (fun v hv => by cases hv)
    | boolean => exact tv_c1 (by rcases h with rfl | rfl <;> (show tv_in _; unfold tv_in; omega)) (fun v hv => by cases hv)
    | _ => exact h.elim
theorem tv_oks_app {a b : List tv_V} : tv_oks (a ++ b) ↔ tv_oks a ∧ tv_oks b := by
  simp only [tv_oks, List.mem_append]
  exact ⟨fun h => ⟨fun v hv => h v (Or.inl hv), fun v hv => h v (Or.inr hv)⟩, fun h v hv => hv.elim (h.1 v) (h.2 v)⟩
theorem tv_st_go {s U : State} {H : Heap} {locs : List Loc} (hst : tv_st E s s.heap) (hS : va_S (tv_A E) s.heap H locs) (hW : s.WarmedH U.vm) (hH : U.heap = H) : tv_st E U U.heap := by
  subst hH
  obtain ⟨h1, h2, h3, h4, h5⟩ := hst
  have hq : ∀ a : Nat, a < s.heap.size → ¬ tv_A E a → U.heap[a]? = s.heap[a]? := fun a ha hn => hS.2.1 a ha hn
  refine ⟨fun k hk => ((h1 k hk).moved hW.alike).kept hq, (h2.moved hW.alike).kept hq, (h3.moved hW.alike).kept hq, fun w hw => ?_, h5.moved hW.alike⟩
  have h := h4 w hw
  have hn := (List.mem_filter.mp hw).2
  cases w <;> first | (simp [tv_isN] at hn; done) | exact va_Nw.warmM hW h | exact va_Nw.warmF hW h
theorem tv_pc_blind (as : List Value) : FrameBlind (va_Pc as (tv_pc E M)) := by
  intro a U g mk h
  obtain ⟨h1, h2, h3, h4, h5, h6, h7, h8⟩ := h
  refine ⟨h1, h2, va_K.moved (u := U) (U := U.calling g mk a) (Vm.Alike.refl U.vm) h3, fun k hk => (h4 k hk).moved (Vm.Alike.refl U.vm), h5.moved (Vm.Alike.refl U.vm), h6.moved (Vm.Alike.refl U.vm), fun w hw => va_Nw.same (u := U) (U := U.calling g mk a) (tv_nw_on hw) rfl (h7 w hw), h8.moved (Vm.Alike.refl U.vm)⟩
theorem tv_pc_go {p : Program} {R : Room} {s U : State} {m : MethodId} {args : Array Value} {meth : Method} {c : Code} {H : Heap} {locs : List Loc} {as : List Value} (C : tv_cx E d y p R s m args meth c) (hw : tv_wd E M H) (hS : va_S (tv_A E) s.heap H locs) (hU : U.heap = H) (hW : s.WarmedH U.vm) : va_Pc as (tv_pc E M) as.toArray U :=
  ⟨rfl, by rw [hU]; exact hw, va_K.moved hW.alike C.2.2.2.2.2.2.2.2.1, tv_st_go C.2.2.2.2.2.2.2.2.2.1 hS hW hU⟩
/-- a call, whatever its kind -/
theorem tv_callX {y2 : tv_Y} {as st0 : List tv_V} {F : Option (Int × tv_M)} {K : Int → tv_M → Option (Int × tv_M)} (hok : tv_oks st0 → tv_oks as ∧ tv_oks st) (hm : tv_msim l E d y2 as M F)
    (hrun : ∀ (p : Program) (e : Env) (R : Room) (s : State) (m : MethodId) (args : Array Value) (below : List Frame) (meth : Method) (c : Code) (k j : Nat) (Ls : Array Slot) (H : Heap) (locs : List Loc) (r' : Int) (M1 : tv_M), tv_cx E (d + 1) y p R s m args meth c → tv_lr E ls Ls → tv_wd E M H → va_S (tv_A E) s.heap H locs →
      Met l y2.1 (tv_ws0 y2) (tv_rm d (tv_mc M1 - tv_mc M) (tv_ms M1 - tv_ms M)) (va_Pc (as.map (tv_v E)) (tv_pc E M)) (tv_Q E y2 r' M1) (tv_mc M1 - tv_mc M) (tv_ms M1 - tv_ms M) (tv_A E) → k + (tv_mc M1 - tv_mc M) ≤ R.cells → j + (tv_ms M1 - tv_ms M) ≤ R.slots →
      va_Run p l e R s m args below meth c H locs k j (tv_mc M1 - tv_mc M) (tv_ms M1 - tv_ms M) (F0 m pc Ls (st0.map (tv_v E))) (st.map (tv_v E)) (tv_Q E y2 r' M1 (as.map (tv_v E)).toArray) (tv_A E))
    (hk : ∀ r' M1, F = some (r', M1) → tv_sim l E (d + 1) y (pc + 3) ls (tv_pu y2 r' ++ st) M1 (K r' M1)) : tv_sim l E (d + 1) y pc ls st0 M (tv_b F K) := by
  intro r M' hx o1 o2 o3
  cases hF : F with
  | none => rw [hF] at hx; cases hx
  | some q =>
    obtain ⟨r1, M1⟩ := q
    rw [hF] at hx
    obtain ⟨b1, b2, b3, b4, b5⟩ := hm r1 M1 hF (hok o2).1 o3
    obtain ⟨a1, a2, a3, a4, a5⟩ := hk r1 M1 hF r M' hx o1 (tv_oks_app.mpr ⟨tv_pu_ok b2, (hok o2).2⟩) b1
    refine ⟨a1, a2, Nat.le_trans b3 a3, Nat.le_trans b4 a4, ?_⟩
    intro p e R s m args below meth c Z k j C hc hj hret Ls H locs hl hw hS T hT X
    have hr := hrun p e R s m args below meth c k j Ls H locs r1 M1 C hl hw hS b5 (by omega) (by omega)
    obtain ⟨v, st₀, t, T', L, h0, X', hL, e1, e2, ⟨hv, hw1, hz, hkeep⟩, stp⟩ := hr T hT X
    rw [h0] at hz hkeep
    have hv' : v = (tv_rs y2.2.2.2 r1).head? := by injection hv
    have hS1 : va_S (tv_A E) s.heap T'.heap (locs ++ L) := ⟨Nat.le_trans hS.1 (by rw [e1]; exact hz), fun q h1 h2 => by rw [e1, hkeep q (Nat.lt_of_lt_of_le h1 hS.1) h2]; exact hS.2.1 q h1 h2, fun q hq => by
      rcases List.mem_append.mp hq with h | h
      · exact hS.2.2 q h
      · exact hL q h⟩
    have ec : k + (tv_mc M1 - tv_mc M) + (tv_mc M' - tv_mc M1) = k + (tv_mc M' - tv_mc M) := by omega
    have ej : j + (tv_ms M1 - tv_ms M) + (tv_ms M' - tv_ms M1) = j + (tv_ms M' - tv_ms M) := by omega
    have hW := a5 p e R s m args below meth c Z (k + (tv_mc M1 - tv_mc M)) (j + (tv_ms M1 - tv_ms M)) C (by rw [ec]; exact hc) (by rw [ej]; exact hj) (by rw [ec, ej]; exact hret) Ls T'.heap (locs ++ L) hl (by rw [e1]; exact hw1) hS1
    obtain ⟨t2, c1, c2⟩ := hW T' rfl X'
    refine ⟨t2, stp t2 ?_, c2⟩
    rw [List.map_append, tv_pu_v, ← hv'] at c1
    exact c1
/-- the words of a method, and of its links -/
def tv_mw (y : tv_Y) (n : Nat) : Prop := Cond.initialized y.1.cls ∈ tv_tb ∧ Cond.code y.1 y.2.1 y.2.2.1 y.2.2.2 ∈ tv_tb ∧ (y.1.cls ≠ "java/lang/invoke/MethodHandle" ∧ y.1.cls ≠ "java/lang/invoke/VarHandle" ∧ (parseMethodDescriptor y.1.desc).map (fun d => d.parameters.length) = some n) ∧ y.2.2.1 ≤ 40
def tv_mi (y : tv_Y) : Prop := Cond.instanceMethod y.1 ∈ tv_tb
def tv_mv (y : tv_Y) : Prop := Cond.instanceMethod y.1 ∈ tv_tb ∧ Cond.selects y.1.cls y.1 y.1 ∈ tv_tb
def tv_msx (y : tv_Y) : Prop := Cond.static y.1 ∈ tv_tb
theorem tv_good0 {y2 : tv_Y} {n : Nat} (h : tv_mw y2 n) : GoodIn tv_tb (tv_ws0 y2) := by
  intro w hw
  rcases List.mem_cons.mp hw with h1 | h1
  · rw [h1]; exact tv_good _ h.2.1
  · exact tv_good _ h1
theorem tv_cb {p : Program} {R : Room} {s : State} {m : MethodId} {args : Array Value} {meth : Method} {c : Code} {y2 : tv_Y} {n idx mc ms : Nat} (C : tv_cx E (d + 1) y p R s m args meth c) (h : tv_mw y2 n) (hl : Cond.methodLink y.1.cls idx y2.1 ∈ tv_tb) : CallB R s args y.1.cls idx y2.1 y2.2.1 y2.2.2.1 y2.2.2.2 (tv_ws0 y2) (tv_rm d mc ms) mc ms n := by
  obtain ⟨h1, h2, h3, h4⟩ := h
  obtain ⟨hx, hb, hml, hr, hown, hts, hlk, hnm, hK, hst, hal, hdf, hdl⟩ := C
  exact callB_of n hts (tv_good0 ⟨h1, h2, h3, h4⟩) rfl rfl rfl (hts _ h1) (hts _ hl) h3 ⟨hdf, by show 8 + (y2.2.2.1 + 11) + 64 * d ≤ R.locals; omega⟩
theorem tv_cn {p : Program} {R : Room} {s : State} {m : MethodId} {args : Array Value} {meth : Method} {c : Code} {y2 : tv_Y} {n idx mc ms : Nat} {host : String} (C : tv_cx E (d + 1) y p R s m args meth c) (h : tv_mw y2 n) (hl : Cond.methodLinkNest y.1.cls idx y2.1 host ∈ tv_nb) : va_CN R s args y.1.cls idx y2.1 host y2.2.1 y2.2.2.1 y2.2.2.2 (tv_ws0 y2) (tv_rm d mc ms) mc ms n := by
  obtain ⟨h1, h2, h3, h4⟩ := h
  obtain ⟨hx, hb, hml, hr, hown, hts, hlk, hnm, hK, hst, hal, hdf, hdl⟩ := C
  exact va_cnB n hts (tv_good0 ⟨h1, h2, h3, h4⟩) rfl rfl rfl (hst.2.2.2.1 _ hl) (hts _ h1) h3 ⟨hdf, by show 8 + (y2.2.2.1 + 11) + 64 * d ≤ R.locals; omega⟩
theorem tv_room {m : MethodId} {pc : Nat} {Ls : Array Slot} {rest : List Value} (h : (st.map fun v => (tv_v E v).category).sum ≤ 8) : 2 * (F0 m pc Ls rest).monitorRoom + ((st.map (tv_v E)).map fun v => v.category).sum ≤ 8 := by
  rw [List.map_map]
  show 2 * 0 + _ ≤ 8
  have h2 : (st.map ((fun v => v.category) ∘ tv_v E)).sum ≤ 8 := h
  omega
theorem ts_callS {y2 : tv_Y} {as : List tv_V} {n idx : Nat} {F : Option (Int × tv_M)} {K : Int → tv_M → Option (Int × tv_M)} (hw : tv_mw y2 n) (hx : tv_msx y2) (hl : Cond.methodLink y.1.cls idx y2.1 ∈ tv_tb) (hn : as.length = n) (hls : ls.length = y.2.2.1) (hst : (st.map fun v => (tv_v E v).category).sum ≤ 8) (hd : decode y.2.1 pc = .ok (.invokestatic idx, 3))
    (hm : tv_msim l E d y2 as M F) (hk : ∀ r' M1, F = some (r', M1) → tv_sim l E (d + 1) y (pc + 3) ls (tv_pu y2 r' ++ st) M1 (K r' M1)) : tv_sim l E (d + 1) y pc ls (as.reverse ++ st) M (tv_b F K) := by
  refine tv_callX (as := as) (st := st) (fun o => ⟨fun v hv => o v (List.mem_append_left _ (List.mem_reverse.mpr hv)), fun v hv => o v (List.mem_append_right _ hv)⟩) hm ?_ hk
  intro p e R s m args below meth c k j Ls H locs r' M1 C hlr hwd hS hM hc hj
  exact va_runS (As := as.map (tv_v E)) (rest := st.map (tv_v E)) ⟨C.1, C.2.1, C.2.2.1, C.2.2.2.2.1, C.2.2.2.2.2.1⟩ hM ⟨tv_cb C hw hl, C.2.2.2.2.2.1 _ hx⟩ ⟨tv_pc_blind _, fun U hU hW => tv_pc_go C hwd hS hU hW⟩ rfl (by rw [List.length_map]; exact hn) (by rw [← hls]; exact hlr.1) (by rw [List.map_append, List.map_reverse]) (tv_room hst) hd ⟨hc, hj⟩
theorem ts_callSN {y2 : tv_Y} {as : List tv_V} {n idx : Nat} {host : String} {F : Option (Int × tv_M)} {K : Int → tv_M → Option (Int × tv_M)} (hw : tv_mw y2 n) (hx : tv_msx y2) (hl : Cond.methodLinkNest y.1.cls idx y2.1 host ∈ tv_nb) (hn : as.length = n) (hls : ls.length = y.2.2.1) (hst : (st.map fun v => (tv_v E v).category).sum ≤ 8) (hd : decode y.2.1 pc = .ok (.invokestatic idx, 3))
    (hm : tv_msim l E d y2 as M F) (hk : ∀ r' M1, F = some (r', M1) → tv_sim l E (d + 1) y (pc + 3) ls (tv_pu y2 r' ++ st) M1 (K r' M1)) : tv_sim l E (d + 1) y pc ls (as.reverse ++ st) M (tv_b F K) := by
  refine tv_callX (as := as) (st := st) (fun o => ⟨fun v hv => o v (List.mem_append_left _ (List.mem_reverse.mpr hv)), fun v hv => o v (List.mem_append_right _ hv)⟩) hm ?_ hk
  intro p e R s m args below meth c k j Ls H locs r' M1 C hlr hwd hS hM hc hj
  exact va_runSN (As := as.map (tv_v E)) (rest := st.map (tv_v E)) ⟨C.1, C.2.1, C.2.2.1, C.2.2.2.2.1, C.2.2.2.2.2.1⟩ hM ⟨tv_cn C hw hl, C.2.2.2.2.2.1 _ hx, trivial⟩ ⟨tv_pc_blind _, fun U hU hW => tv_pc_go C hwd hS hU hW⟩ rfl (by rw [List.length_map]; exact hn) (by rw [← hls]; exact hlr.1) (by rw [List.map_append, List.map_reverse]) (tv_room hst) hd ⟨hc, hj⟩
theorem ts_callV {y2 : tv_Y} {as : List tv_V} {n idx r ci N : Nat} {T : u_T} {F : Option (Int × tv_M)} {K : Int → tv_M → Option (Int × tv_M)} (hw : tv_mw y2 n) (hx : tv_mv y2) (hcl : tv_cls ci y2.1.cls T N) (hl : Cond.methodLink y.1.cls idx y2.1 ∈ tv_tb) (hn : as.length = n) (hls : ls.length = y.2.2.1) (hst : (st.map fun v => (tv_v E v).category).sum ≤ 8) (hd : decode y.2.1 pc = .ok (.invokevirtual idx, 3))
    (hm : tv_msim l E d y2 (tv_R r :: as) M F) (hk : ∀ r' M1, F = some (r', M1) → tv_sim l E (d + 1) y (pc + 3) ls (tv_pu y2 r' ++ st) M1 (K r' M1)) : tv_sim l E (d + 1) y pc ls (as.reverse ++ tv_R r :: st) M (if tv_at M r = (ci, N) then tv_b F K else none) := by
  refine tv_guard fun hat => ?_
  obtain ⟨hc20, hvw, -⟩ := hcl
  obtain ⟨r, rfl, hr⟩ := tv_at_some hat (by omega)
  refine tv_callX (as := tv_R (r + 1) :: as) (st := st) (fun o => ⟨tv_c1 trivial (fun v hv => o v (List.mem_append_left _ (List.mem_reverse.mpr hv))), fun v hv => o v (List.mem_append_right _ (List.mem_cons_of_mem _ hv))⟩) hm ?_ hk
  intro p e R s m args below meth c k j Ls H locs r' M1 C hlr hwd hS hM hc hj
  have hcell := tv_ws_at (E := E) hr
  rw [tv_cell_obj hc20] at hcell
  exact va_runV (C := y2.1.cls) (As := as.map (tv_v E)) (rest := st.map (tv_v E)) ⟨C.1, C.2.1, C.2.2.1, C.2.2.2.2.1, C.2.2.2.2.2.1⟩ hM ⟨tv_cb C hw hl, C.2.2.2.2.2.1 _ hx.1, C.2.2.2.2.2.1 _ hx.2⟩ ⟨tv_pc_blind _, va_recv C.2.2.2.2.2.2.2.2.1 hwd.1 hvw hcell, fun U hU hW => tv_pc_go C hwd hS hU hW⟩ rfl (by rw [List.length_map]; exact hn) (by rw [← hls]; exact hlr.1) (by rw [List.map_append, List.map_reverse, List.map_cons]; rfl) (tv_room hst) hd ⟨hc, hj⟩
theorem ts_callI {y2 : tv_Y} {as : List tv_V} {n idx r : Nat} {F : Option (Int × tv_M)} {K : Int → tv_M → Option (Int × tv_M)} (hw : tv_mw y2 n) (hx : tv_mi y2) (hnm : y2.1.name = "<init>") (hrt : y2.2.2.2 = none) (hl : Cond.methodLink y.1.cls idx y2.1 ∈ tv_tb) (hn : as.length = n) (hls : ls.length = y.2.2.1) (hst : (st.map fun v => (tv_v E v).category).sum ≤ 8) (hd : decode y.2.1 pc = .ok (.invokespecial idx, 3))
    (hm : tv_msim l E d y2 (tv_R (r + 1) :: as) M F) (hk : ∀ r' M1, F = some (r', M1) → tv_sim l E (d + 1) y (pc + 3) ls (tv_pu y2 r' ++ st) M1 (K r' M1)) : tv_sim l E (d + 1) y pc ls (as.reverse ++ tv_R (r + 1) :: st) M (tv_b F K) := by
  refine tv_callX (as := tv_R (r + 1) :: as) (st := st) (fun o => ⟨tv_c1 trivial (fun v hv => o v (List.mem_append_left _ (List.mem_reverse.mpr hv))), fun v hv => o v (List.mem_append_right _ (List.mem_cons_of_mem _ hv))⟩) hm ?_ hk
  intro p e R s m args below meth c k j Ls H locs r' M1 C hlr hwd hS hM hc hj
  have hcb := tv_cb (mc := tv_mc M1 - tv_mc M) (ms := tv_ms M1 - tv_ms M) C hw hl
  rw [hrt] at hcb
  exact va_runI (As := as.map (tv_v E)) (rest := st.map (tv_v E)) ⟨C.1, C.2.1, C.2.2.1, C.2.2.2.2.1, C.2.2.2.2.2.1⟩ hM ⟨hcb, hnm, C.2.2.2.2.2.1 _ hx⟩ ⟨tv_pc_blind _, fun U hU hW => tv_pc_go C hwd hS hU hW⟩ rfl (by rw [List.length_map]; exact hn) (by rw [← hls]; exact hlr.1) (by rw [List.map_append, List.map_reverse, List.map_cons]; rfl) (tv_room hst) hd ⟨hc, hj⟩
theorem ts_callIN {y2 : tv_Y} {as : List tv_V} {n idx r : Nat} {host : String} {F : Option (Int × tv_M)} {K : Int → tv_M → Option (Int × tv_M)} (hw : tv_mw y2 n) (hx : tv_mi y2) (hnm : y2.1.name = "<init>") (hrt : y2.2.2.2 = none) (hl : Cond.methodLinkNest y.1.cls idx y2.1 host ∈ tv_nb) (hn : as.length = n) (hls : ls.length = y.2.2.1) (hst : (st.map fun v => (tv_v E v).category).sum ≤ 8) (hd : decode y.2.1 pc = .ok (.invokespecial idx, 3))
    (hm : tv_msim l E d y2 (tv_R (r + 1) :: as) M F) (hk : ∀ r' M1, F = some (r', M1) → tv_sim l E (d + 1) y (pc + 3) ls (tv_pu y2 r' ++ st) M1 (K r' M1)) : tv_sim l E (d + 1) y pc ls (as.reverse ++ tv_R (r + 1) :: st) M (tv_b F K) := by
  refine tv_callX (as := tv_R (r + 1) :: as) (st := st) (fun o => ⟨tv_c1 trivial (fun v hv => o v (List.mem_append_left _ (List.mem_reverse.mpr hv))), fun v hv => o v (List.mem_append_right _ (List.mem_cons_of_mem _ hv))⟩) hm ?_ hk
  intro p e R s m args below meth c k j Ls H locs r' M1 C hlr hwd hS hM hc hj
  have hcb := tv_cn (mc := tv_mc M1 - tv_mc M) (ms := tv_ms M1 - tv_ms M) C hw hl
  rw [hrt] at hcb
  exact va_runIN (As := as.map (tv_v E)) (rest := st.map (tv_v E)) ⟨C.1, C.2.1, C.2.2.1, C.2.2.2.2.1, C.2.2.2.2.2.1⟩ hM ⟨hcb, hnm, C.2.2.2.2.2.1 _ hx⟩ ⟨tv_pc_blind _, fun U hU hW => tv_pc_go C hwd hS hU hW⟩ rfl (by rw [List.length_map]; exact hn) (by rw [← hls]; exact hlr.1) (by rw [List.map_append, List.map_reverse, List.map_cons]; rfl) (tv_room hst) hd ⟨hc, hj⟩
end TC
