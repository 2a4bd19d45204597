theorem lw_el0 : ∀ j : Fin 32, Cond.eq (.elem (.static "TemperInHive" "OWN_BODIES" "[I") (.int (Int32.ofNat j))) (.int (Int32.ofInt (tv_own j))) ∈ flatC (Jvm.Cond.and given_1 narrow_1) := by decide +kernel
theorem lw_el1 : ∀ j : Fin 8, Cond.eq (.elem (.static "TemperInHive" "KIND_ABOVE" "[I") (.int (Int32.ofNat j))) (.int (Int32.ofInt (tv_kab j))) ∈ flatC (Jvm.Cond.and given_1 narrow_1) := by decide +kernel
theorem lw_one {s : State} {args : Array Value} {n : String} {N : Nat} {f : Nat → Int} (hts : ∀ w ∈ lw_tbl, w.before args s = true) (hs : ∀ w ∈ flatC (Jvm.Cond.and given_1 narrow_1), w.before args s = true) (hN : N < 2 ^ 31)
    (h1 : Cond.arrayOf (.static "TemperInHive" n "[I") .int ∈ flatC (Jvm.Cond.and given_1 narrow_1)) (h2 : Cond.eq (.length (.static "TemperInHive" n "[I")) (.int (Int32.ofNat N)) ∈ flatC (Jvm.Cond.and given_1 narrow_1))
    (h3 : ∀ j : Fin N, Cond.eq (.elem (.static "TemperInHive" n "[I") (.int (Int32.ofNat j))) (.int (Int32.ofInt (f j))) ∈ flatC (Jvm.Cond.and given_1 narrow_1)) (h4 : Cond.laysStatic "TemperInHive" n "[I" ∈ lw_tbl) :
    ∃ t : Nat, va_T .int t N (fun j => .int (Int32.ofInt (f j))) (fun q => s.heap.size ≤ q) s s.heap ∧ va_Z "TemperInHive" n "[I" (.ref t) (fun q => s.heap.size ≤ q) s s.heap := by
  obtain ⟨t, ht, hT⟩ := va_Tof (A := fun q => s.heap.size ≤ q) (f := fun j => .int (Int32.ofInt (f j))) hN (hs _ h1) (va_eqt (hs _ h2)) (fun j hj => va_eqt (hs _ (h3 ⟨j, hj⟩))) (fun a ha => Nat.not_le.mpr ha)
  exact ⟨t, hT, va_Zof (hts _ h4) (lw_tbs hts _ tw_ini_11) ht (fun a ha => Nat.not_le.mpr ha)⟩
theorem lw_st {s : State} {b L : Nat} {xs : Nat → Int32} (hts : ∀ w ∈ lw_tbl, w.before #[Value.ref b] s = true) (hgv : (Jvm.Cond.and given_1 narrow_1).before #[Value.ref b] s = true) (hX : va_X b L xs s s.heap) (hbl : b < s.heap.size) :
    ∃ t0 t1 : Nat, ∀ E : tv_E, tv_ta E 0 = t0 → tv_ta E 1 = t1 → tv_ta E 2 = b → tv_sa E 0 = (32, tv_own) → tv_sa E 1 = (8, tv_kab) → tv_sa E 2 = (L, fun j => (xs j).toInt) → (∀ q, tv_A E q → s.heap.size ≤ q) → tv_st E s s.heap := by
  have hs := flat_of_before _ hgv
  obtain ⟨t0, a1, a2⟩ := lw_one (n := "OWN_BODIES") (N := 32) (f := tv_own) hts hs (by decide) (by decide +kernel) (by decide +kernel) lw_el0 lw_ls0
  obtain ⟨t1, b1, b2⟩ := lw_one (n := "KIND_ABOVE") (N := 8) (f := tv_kab) hts hs (by decide) (by decide +kernel) (by decide +kernel) lw_el1 lw_ls1
  refine ⟨t0, t1, fun E e0 e1 e2 s0 s1 s2 hA => ⟨fun k hk => ?_, ?_, ?_, lw_nbs hts, va_AO.of (hts _ lw_ao)⟩⟩
  · match k, hk with
    | 0, _ => rw [e0, s0]; exact a1.narrow hA
    | 1, _ => rw [e1, s1]; exact b1.narrow hA
    | 2, _ =>
      rw [e2, s2]
      obtain ⟨scr, x1, x2, x3, x4, x5⟩ := hX
      refine ⟨scr, x1, x2, x3, by rw [x4]; exact Nat.le_refl _, by rw [x4], fun j hj => ?_, fun q => Nat.not_le.mpr hbl (hA b q)⟩
      rw [x5 j hj]
      show some (Value.int (xs j)) = some (Value.int (Int32.ofInt (xs j).toInt))
      rw [tv_ofTo]
    | k + 3, hk => omega
  · rw [e0]; exact a2.narrow hA
  · rw [e1]; exact b2.narrow hA
/-- a new cell, on the machine -/
theorem tz_new {l : Launch} {E : tv_E} {d : Nat} {y : tv_Y} {M : tv_M} {p : Program} {e : Env} {R : Room} {s : State} {m : MethodId} {args : Array Value} {below : List Frame} {meth : Method} {c : Code} {Z : State → Prop} {k j pc : Nat} {Ls : Array Slot} {H : Heap} {locs : List Loc} {st : List Value} {ci N idx : Nat} {C0 : String} {T : u_T}
    (hal : tv_al E) (C : tv_cx E d y p R s m args meth c) (hw : tv_wd E M H) (hc : tv_cls ci C0 T N) (ht : ∀ j, j < N → tv_isR (tv_ty ci j) = true ∨ tv_ty ci j = .int ∨ tv_ty ci j = .boolean) (hl : Cond.classLink y.1.cls idx C0 ∈ tv_tb) (hi : Cond.instantiable C0 N ∈ tv_tb) (hini : Cond.initialized C0 ∈ tv_tb) (hk : k + 1 ≤ R.cells) (hj : j + N ≤ R.slots) (hd : decode y.2.1 pc = .ok (.new idx, 3))
    (kk : ∀ H1 : Heap, tv_wd E (tv_new M ci N) H1 → H1.size = H.size + 1 → (∀ q, q < H.size → H1[q]? = H[q]?) → W p l e R s m args below meth c H1 locs (k + 1) (j + N) Z (F0 m (pc + 3) Ls (.ref (tv_ad E M.1.length) :: st))) :
    W p l e R s m args below meth c H locs k j Z (F0 m pc Ls st) := by
  have hK := C.2.2.2.2.2.2.2.2.1
  have hts := C.2.2.2.2.2.1
  have hKn := hK.1 ci _ hc.2.1
  obtain ⟨hz, hA⟩ := hw.2.2 hal
  refine W.newcK C.1 C.2.1 C.2.2.2.2.1 (hts _ hl) (hts _ hi) (hts _ hini) rfl hd hk hj hKn.2.1 rfl fun H1 kC hkC e1 z1 o1 => ?_
  have hat : va_at (tv_G E) vwCl (H.size, tv_cell E ci N (fun _ => 0)) H1 := by
    rw [tv_cell_obj hc.1]
    exact ⟨_, hc.2.1, (u_born (tv_ty ci) hts hc.2.2.1 hKn hkC e1 hc.2.2.2.1).to (fun j hj => tv_fvd hc j hj (ht j hj))⟩
  have hw1 : tv_wd E (tv_new M ci N) H1 := by
    refine ⟨?_, fun k hk => hA _ (by rw [tv_al_ad hal]; omega), fun _ => ⟨by simp [tv_new]; omega, hA⟩⟩
    rw [tv_ws_new]
    refine (hw.1.kept (fun i q hq => o1 q.1 ?_)).app (fun i q hq => ?_)
    · obtain ⟨h1, h2⟩ := tv_ws_inv hq
      rw [h2, hz, tv_al_ad hal]; omega
    · have hi : i < 1 := (List.getElem?_eq_some_iff.mp hq).1
      rw [show i = 0 by omega] at hq
      cases hq
      rw [hz, ← tv_al_ad hal] at hat
      exact hat
  have h := kk H1 hw1 z1 o1
  rw [hz, ← tv_al_ad hal]
  exact h
/-- a call, on the machine: what a run gives -/
theorem tz_go {l : Launch} {E : tv_E} {y2 : tv_Y} {M M1 : tv_M} {r : Int} {as : Array Value} {p : Program} {e : Env} {R : Room} {s : State} {m : MethodId} {args : Array Value} {below : List Frame} {meth : Method} {c : Code} {Z : State → Prop} {k j mc ms pc : Nat} {Ls : Array Slot} {H : Heap} {locs : List Loc} {st0 rest : List Value} {A : Nat → Prop}
    (hr : va_Run p l e R s m args below meth c H locs k j mc ms (F0 m pc Ls st0) rest (tv_Q E y2 r M1 as) (tv_A E)) (hS : va_S A s.heap H locs) (hA : ∀ q, tv_A E q → A q)
    (kk : ∀ (H1 : Heap) (locs1 : List Loc), tv_wd E M1 H1 → H.size ≤ H1.size → (∀ q, q < H.size → ¬ tv_A E q → H1[q]? = H[q]?) → va_S A s.heap H1 locs1 → W p l e R s m args below meth c H1 locs1 (k + mc) (j + ms) Z (F0 m (pc + 3) Ls ((tv_rs y2.2.2.2 r).head?.toList ++ rest))) :
    W p l e R s m args below meth c H locs k j Z (F0 m pc Ls st0) := by
  intro T hT X
  obtain ⟨v, st₀, t, T', Lc, h0, X', hL, e1, e2, ⟨hv, hw1, hz, hkeep⟩, stp⟩ := hr T hT X
  rw [h0] at hz hkeep
  have hv' : v = (tv_rs y2.2.2.2 r).head? := by injection hv
  have hS1 : va_S A s.heap T'.heap (locs ++ Lc) := ⟨Nat.le_trans hS.1 (by rw [e1]; exact hz), fun q h1 h2 => by rw [e1, hkeep q (Nat.lt_of_lt_of_le h1 hS.1) (fun z => h2 (hA q z))]; exact hS.2.1 q h1 h2, fun q hq => by
    rcases List.mem_append.mp hq with h | h
    · exact hS.2.2 q h
    · exact hA _ (hL q h)⟩
  obtain ⟨t2, c1, c2⟩ := kk T'.heap (locs ++ Lc) (by rw [e1]; exact hw1) (by rw [e1]; exact hz) (fun q h1 h2 => by rw [e1]; exact hkeep q h1 h2) hS1 T' rfl X'
  refine ⟨t2, stp t2 ?_, c2⟩
  rw [hv']
  exact c1
