theorem lw_lr1 {E : tv_E} {ls : List tv_V} {Ls : Array Slot} {p : Program} {l : Launch} {e : Env} {R : Room} {s : State} {m : MethodId} {args : Array Value} {below : List Frame} {meth : Method} {c : Code} {H : Heap} {locs : List Loc} {cells slots : Nat} {Q : State → Prop} {pc i a : Nat} {k : Fin 4} {v : tv_V} {rest : List Value} (hx : p.tables.exec = Jvm.exec) (hb : c.code = code) (hl : tv_lr E ls Ls) (hi : (k : Nat) = i) (hn : i < ls.length) (hs : tv_sok ls i = true) (hv : tv_v E v = .ref a) (hd : decode code pc = .ok (.astore_n k, 1))
    (kk : ∀ Ls' : Array Slot, tv_lr E (ls.set i v) Ls' → W p l e R s m args below meth c H locs cells slots Q (F0 m (pc + 1) Ls' rest)) : W p l e R s m args below meth c H locs cells slots Q (F0 m pc Ls (.ref a :: rest)) :=
  lv_astore_n hx hb hd hi (tv_as_has hl) hn rfl (fun Ls' h => kk Ls' (tv_lr_set (v := v) hn hs (by rw [hv]; exact h)))
theorem lw_new0 {ci N : Nat} : tv_new (([], fun _ _ => 0) : tv_M) ci N = ([(ci, N)], fun _ _ => 0) := by
  unfold tv_new
  refine Prod.ext rfl ?_
  funext r j
  show (if _ then _ else _) = _
  split <;> rfl
theorem lw_ok0c : tv_okM mc_0 := by
  intro k c n h j
  have hk : k < 1 := (List.getElem?_eq_some_iff.mp h).1
  obtain rfl : k = 0 := by omega
  cases h
  exact tv_in0
theorem lw_ok0m : tv_okM mm_0 := by
  intro k c n h j
  have hk : k < 1 := (List.getElem?_eq_some_iff.mp h).1
  obtain rfl : k = 0 := by omega
  cases h
  exact tv_in0
theorem lw_mcs : tv_mc mc_1 - tv_mc mc_0 = 58 ∧ tv_mc mm_1 - tv_mc mm_0 = 39 ∧ tv_ms mc_1 - tv_ms mc_0 ≤ 100000 ∧ tv_ms mm_1 - tv_ms mm_0 ≤ 100000 := by decide +kernel
set_option maxHeartbeats 4000000 in
set_option maxRecDepth 20000 in
/-- the law's walk, over any relation of both memories that the calls keep -/
theorem whole_open {R : td_D → td_D → Prop} (h0 : R dc_0 dm_0) (hsteps : lw_steps R) {p : Program} {e : Env} {s : State} {m : MethodId} {below : List Frame} {meth : Method} {c : Code} (l : Launch) {b L : Nat} {xs : Nat → Int32} (hL : L ≤ 3072) (C0 : lw_At p s m meth c b L xs) : W p l e room_1 s m #[Value.ref b] below meth c s.heap [] 0 0 (lw_Z below #[Value.ref b] s) (entryFrame m ([Value.ref b] : List Value).toArray 4) := by
  obtain ⟨hx, hb, hr, hml, hown, hts, hX, hbl, hlocks, hgv⟩ := id C0
  obtain ⟨G, ca, hKE⟩ := lw_K (lw_tbs hts) (va_AO.of (hts _ lw_ao))
  obtain ⟨t0, t1, hstE⟩ := lw_st hts hgv hX hbl
  generalize hsz : s.heap.size = sz at *
  have hta : ∃ ta : Nat → Nat, ta 0 = t0 ∧ ta 1 = t1 ∧ ta 2 = b ∧ ta 3 = sz + 59 := ⟨fun k => if k = 0 then t0 else if k = 1 then t1 else if k = 2 then b else sz + 59, rfl, rfl, rfl, rfl⟩
  obtain ⟨ta, ta0, ta1, ta2, ta3⟩ := hta
  have hsa : ∃ sa : Nat → Nat × (Nat → Int), sa 0 = (32, tv_own) ∧ sa 1 = (8, tv_kab) ∧ sa 2 = (L, fun j => (xs j).toInt) := ⟨fun k => if k = 0 then (32, tv_own) else if k = 1 then (8, tv_kab) else (L, fun j => (xs j).toInt), rfl, rfl, rfl⟩
  obtain ⟨sa, sa0, sa1, sa2⟩ := hsa
  have mk : ∀ E : tv_E, tv_G E = G → tv_ca E = ca → tv_ta E = ta → tv_sa E = sa → (∀ q, tv_A E q → sz ≤ q) → tv_cx E 1200 (tv_yL meth.name) p room_1 s m #[Value.ref b] meth c := fun E e1 e2 e3 e4 hA =>
    ⟨hx, hb, hml, hr, hown, lw_tbs hts, hlocks, rfl, hKE E e1 e2, hstE E (by rw [e3]; exact ta0) (by rw [e3]; exact ta1) (by rw [e3]; exact ta2) (by rw [e4]; exact sa0) (by rw [e4]; exact sa1) (by rw [e4]; exact sa2) hA, trivial, Nat.le_of_ble_eq_true rfl, Nat.le_of_ble_eq_true rfl⟩
  have CE1 := mk ((sz, pm_i), (fun q => sz ≤ q), G, ca, ta, sa, True) rfl rfl rfl rfl (fun q h => h)
  have CE2 := mk ((sz + 59, pm_i), (fun q => sz + 59 ≤ q), G, ca, ta, sa, True) rfl rfl rfl rfl (fun q h => by have h2 : sz + 59 ≤ q := h; omega)
  have CEc := mk ((sz, pm_s), (fun q => sz ≤ q ∧ q < sz + 59), G, ca, ta, sa, False) rfl rfl rfl rfl (fun q h => h.1)
  have CEm := mk ((sz + 59, pm_i), (fun q => sz + 59 ≤ q ∧ q < sz + 99), G, ca, ta, sa, False) rfl rfl rfl rfl (fun q h => by have h2 : sz + 59 ≤ q := h.1; omega)
  generalize hE1 : (((sz, pm_i), (fun q => sz ≤ q), G, ca, ta, sa, True) : tv_E) = E1 at CE1
  generalize hE2 : (((sz + 59, pm_i), (fun q => sz + 59 ≤ q), G, ca, ta, sa, True) : tv_E) = E2 at CE2
  have al1 : tv_al E1 := by rw [← hE1]; exact ⟨trivial, fun _ => rfl⟩
  have al2 : tv_al E2 := by rw [← hE2]; exact ⟨trivial, fun _ => rfl⟩
  have z1 : tv_sz E1 = sz := by rw [← hE1]
  have z2 : tv_sz E2 = sz + 59 := by rw [← hE2]
  have A1 : tv_A E1 = fun q => sz ≤ q := by rw [← hE1]
  have A2 : tv_A E2 = fun q => sz + 59 ≤ q := by rw [← hE2]
  have hSall : va_S (fun q => sz ≤ q) s.heap s.heap [] := va_S.rf
  rw [lg_entry_eq]
  have hlr := tv_entry (E := E1) [tv_S 2] (n := 4) (Nat.le_of_ble_eq_true rfl)
  have hv2 : ([tv_S 2].map (tv_v E1)) = [Value.ref b] := by
    show [Value.ref (tv_ta E1 2)] = _
    rw [← hE1]
    show [Value.ref (ta 2)] = _
    rw [ta2]
  rw [hv2] at hlr
  generalize (lg_sl ([Value.ref b]) ++ List.replicate (4 - (lg_sl ([Value.ref b])).length) Slot.unset).toArray = Ls at hlr ⊢
  have hlr : tv_lr E1 [tv_S 2, tv_U, tv_U, tv_U] Ls := hlr
  have hw0 : tv_wd E1 (([], fun _ _ => 0) : tv_M) s.heap := ⟨fun k q h => by simp [tv_ws] at h, fun k hk => by simp at hk, fun _ => ⟨by rw [z1, hsz]; rfl, fun q hq => by rw [A1]; rw [z1] at hq; exact hq⟩⟩
  obtain ⟨n1, n2, n3, n4⟩ := lw_mcs
  refine tz_new (E := E1) al1 CE1 hw0 tw_c11 (by decide) tl_L_7 tk_11 tw_ini_11 (Nat.le_of_ble_eq_true rfl) (Nat.le_of_ble_eq_true rfl) dL_law_0 (fun H1 hw1 hz1 ho1 => ?_)
  rw [lw_new0] at hw1
  refine lv_dup hx hb dL_law_3 rfl ?_
  obtain ⟨o1, o2, o3, o4, hM1⟩ := (show tv_msim l E1 1199 mX11_init [tv_R (0 + 1)] mc_0 (C_X11_init 0 mc_0) from K_X11_init l al1 _ 0 mc_0) 0 mc_1 mc_run (tv_c1 trivial (fun v hv => by cases hv)) lw_ok0c
  have hS1 : va_S (fun q => sz ≤ q) s.heap H1 [] := ⟨by rw [hz1]; omega, fun q h1 h2 => ho1 q h1, fun q hq => by cases hq⟩
  have hcb1 := tv_cb (E := E1) (d := 1199) (mc := tv_mc mc_1 - tv_mc mc_0) (ms := tv_ms mc_1 - tv_ms mc_0) CE1 tw_X11_init tl_L_9
  have hrun1 := va_runI (As := []) (rest := [Value.ref (tv_ad E1 0)]) (g := F0 m 4 Ls [Value.ref (tv_ad E1 0), Value.ref (tv_ad E1 0)]) (b := tv_ad E1 0) (below := below) (l := l) (e := e) (locs := []) (cells := 0 + 1) (slots := 0 + 15) (meth := meth) (H := H1) ⟨CE1.1, CE1.2.1, CE1.2.2.1, CE1.2.2.2.2.1, CE1.2.2.2.2.2.1⟩ hM1 ⟨hcb1, rfl, CE1.2.2.2.2.2.1 _ tx_X11_init⟩ ⟨tv_pc_blind _, fun U hU hW => tv_pc_go (as := [Value.ref (tv_ad E1 0)]) CE1 hw1 (by rw [A1]; exact hS1) hU hW⟩ rfl rfl hlr.1 rfl (lv_room (Nat.le_of_ble_eq_true rfl)) dL_law_4 ⟨by rw [n1]; exact Nat.le_of_ble_eq_true rfl, by show 0 + 15 + (tv_ms mc_1 - tv_ms mc_0) ≤ 7302250; omega⟩
  refine tz_go (M := mc_0) hrun1 hS1 (fun q hq => by rw [A1] at hq; exact hq) ?_
  intro H2 locs2 w2 y2 k2 S2
  show W _ _ _ _ _ _ _ _ _ _ _ _ _ _ _ (F0 m 7 Ls [Value.ref (tv_ad E1 0)])
  have hz2 : H2.size = sz + 59 := by
    have h := (w2.2.2 al1).1
    rw [z1, mc_len] at h
    exact h
  refine lw_lr1 (v := tv_R 1) (i := 1) hx hb hlr rfl (Nat.le_of_ble_eq_true rfl) rfl rfl dL_law_7 (fun Ls2 hlr2 => ?_)
  have hlr2 : tv_lr E1 [tv_S 2, tv_R 1, tv_U, tv_U] Ls2 := hlr2
  have hw3 : tv_wd E2 (([], fun _ _ => 0) : tv_M) H2 := ⟨fun k q h => by simp [tv_ws] at h, fun k hk => by simp at hk, fun _ => ⟨by rw [z2, hz2]; rfl, fun q hq => by rw [A2]; rw [z2] at hq; exact hq⟩⟩
  refine tz_new (E := E2) al2 CE2 hw3 tw_c12 (by decide) tl_L_10 tk_12 tw_ini_12 (by rw [n1]; exact Nat.le_of_ble_eq_true rfl) (by show 0 + 15 + (tv_ms mc_1 - tv_ms mc_0) + 58 ≤ 7302250; omega) dL_law_8 (fun H3 hw4 hz3 ho3 => ?_)
  rw [lw_new0] at hw4
  refine lv_dup hx hb dL_law_11 rfl ?_
  obtain ⟨q1, q2, q3, q4, hM2⟩ := (show tv_msim l E2 1199 mX12_init [tv_R (0 + 1)] mm_0 (C_X12_init 0 mm_0) from K_X12_init l al2 _ 0 mm_0) 0 mm_1 mm_run (tv_c1 trivial (fun v hv => by cases hv)) lw_ok0m
  have hS3 : va_S (fun q => sz ≤ q) s.heap H3 locs2 := ⟨by rw [hz3]; have := S2.1; omega, fun q h1 h2 => (ho3 q (by have := S2.1; omega)).trans (S2.2.1 q h1 h2), S2.2.2⟩
  have hcb2 := tv_cb (E := E2) (d := 1199) (mc := tv_mc mm_1 - tv_mc mm_0) (ms := tv_ms mm_1 - tv_ms mm_0) CE2 tw_X12_init tl_L_12
  have pcg2 : ∀ U : State, U.heap = H3 → s.WarmedH U.vm → va_Pc ([Value.ref (tv_ad E2 0)]) (tv_pc E2 mm_0) ([Value.ref (tv_ad E2 0)]).toArray U := by
    intro U hU hW
    refine ⟨rfl, by rw [hU]; exact hw4, va_K.moved hW.alike CE2.2.2.2.2.2.2.2.2.1, ?_⟩
    obtain ⟨s1, s2, s3, s4, s5⟩ := CE2.2.2.2.2.2.2.2.2.2.1
    have hq : ∀ a : Nat, a < s.heap.size → ¬ tv_A E2 a → U.heap[a]? = s.heap[a]? := fun a ha _ => by rw [hU]; exact hS3.2.1 a ha (by rw [hsz] at ha; exact Nat.not_le.mpr ha)
    refine ⟨fun k hk => ((s1 k hk).moved hW.alike).kept hq, (s2.moved hW.alike).kept hq, (s3.moved hW.alike).kept hq, fun w hw => ?_, s5.moved hW.alike⟩
    have h := s4 w hw
    have hn := (List.mem_filter.mp hw).2
    cases w <;> first | (simp [tv_isN] at hn; done) | exact va_Nw.warmM hW h | exact va_Nw.warmF hW h
  have hrun2 := va_runI (As := []) (rest := [Value.ref (tv_ad E2 0)]) (g := F0 m 12 Ls2 [Value.ref (tv_ad E2 0), Value.ref (tv_ad E2 0)]) (b := tv_ad E2 0) (below := below) (l := l) (e := e) (locs := locs2) (cells := 0 + 1 + (tv_mc mc_1 - tv_mc mc_0) + 1) (slots := 0 + 15 + (tv_ms mc_1 - tv_ms mc_0) + 58) (meth := meth) (H := H3) ⟨CE2.1, CE2.2.1, CE2.2.2.1, CE2.2.2.2.2.1, CE2.2.2.2.2.2.1⟩ hM2 ⟨hcb2, rfl, CE2.2.2.2.2.2.1 _ tx_X12_init⟩ ⟨tv_pc_blind _, pcg2⟩ rfl rfl hlr2.1 rfl (lv_room (Nat.le_of_ble_eq_true rfl)) dL_law_12 ⟨by rw [n1, n2]; exact Nat.le_of_ble_eq_true rfl, by show 0 + 15 + (tv_ms mc_1 - tv_ms mc_0) + 58 + (tv_ms mm_1 - tv_ms mm_0) ≤ 7302250; omega⟩
  refine tz_go (M := mm_0) hrun2 hS3 (fun q hq => by rw [A2] at hq; have h2 : sz + 59 ≤ q := hq; show sz ≤ q; omega) ?_
  intro H4 locs4 w4 y4 k4 S4
  show W _ _ _ _ _ _ _ _ _ _ _ _ _ _ _ (F0 m 15 Ls2 [Value.ref (tv_ad E2 0)])
  refine lw_lr1 (v := tv_S 3) (i := 2) hx hb hlr2 rfl (Nat.le_of_ble_eq_true rfl) rfl (by show Value.ref (tv_ta E1 3) = _; rw [tv_al_ad al2, z2, ← hE1]; show Value.ref (ta 3) = _; rw [ta3]) dL_law_15 (fun Ls3 hlr3 => ?_)
  have hlr3 : tv_lr E1 [tv_S 2, tv_R 1, tv_S 3, tv_U] Ls3 := hlr3
  refine lv_iconst (v := 0) hx hb dL_law_16 rfl ?_
  refine lv_istore_n (i := 3) hx hb dL_law_17 rfl (tv_as_has hlr3) (Nat.le_of_ble_eq_true rfl) rfl (fun Ls4 h4 => ?_)
  have hlr4 : tv_lr E1 [tv_S 2, tv_R 1, tv_S 3, tv_I 0] Ls4 := tv_lr_set (v := tv_I 0) (Nat.le_of_ble_eq_true rfl) rfl h4
  refine W.widen (k := 600000) (n := 7302250) (by rw [n1, n2]; exact Nat.le_of_ble_eq_true rfl) (by omega) ?_
  generalize hEc : (((sz, pm_s), (fun q => sz ≤ q ∧ q < sz + 59), G, ca, ta, sa, False) : tv_E) = Ec at CEc
  generalize hEm : (((sz + 59, pm_i), (fun q => sz + 59 ≤ q ∧ q < sz + 99), G, ca, ta, sa, False) : tv_E) = Em at CEm
  have hC : lw_C p s m meth c b L xs Ec Em := by
    refine ⟨CEc, CEm, hX, by rw [hsz]; exact hbl, ?_, ?_, ?_, ?_, ?_, ?_, ?_, ?_, ?_, ?_⟩
    · intro k hk
      have h : pm_c k < 59 := pm_lt ⟨k, hk⟩
      rw [← hEc, hsz]
      show sz ≤ sz + pm_c k ∧ sz + pm_c k < sz + 59
      omega
    · intro k
      rw [← hEm, hsz]
      rfl
    · rw [← hEc, hsz]
    · rw [← hEm, hsz]
    · rw [← hEc]; exact fun h => h.1
    · rw [← hEm]; exact fun h => h.1
    · rw [← hEc]; exact ta2
    · rw [← hEc, hsz]; exact ta3
    · rw [← hEc]; exact ⟨fun h => h.1, sa0, sa1⟩
    · rw [← hEm]; exact ⟨fun h => h.1, sa0, sa1⟩
  have hloop := lw_loop (l := l) (e := e) (below := below) hC hL hsteps (L + 7) 0 dc_0 dm_0 (by omega) (by omega) ⟨dc_ok o1, by rw [← mm_eq]; exact q1⟩ h0
  have hlr5 : tv_lr Ec [tv_S 2, tv_R 1, tv_S 3, tv_I ((0 : Nat) : Int)] Ls4 := by
    rw [← hE1] at hlr4
    rw [← hEc]
    refine ⟨hlr4.1, hlr4.2.1, fun i v hv hu => ?_⟩
    have h := hlr4.2.2 i v hv hu
    match i, hv, h with
    | 0, hv, h => cases hv; exact h
    | 1, hv, h => cases hv; exact h
    | 2, hv, h => cases hv; exact h
    | 3, hv, h => cases hv; exact h
    | k + 4, hv, _ => cases hv
  have hwc : tv_wd Ec (td_m g_c dc_0) H4 := by
    rw [← hEc]
    refine ⟨?_, fun k hk => ?_, fun z => z.1.elim⟩
    · have hp0 := w2.1
      have hp1 := hp0.kept (H1 := H4) (fun i q hq => by
        obtain ⟨hi, he⟩ := tv_ws_inv hq
        have hlt := (hp0 i q hq).lt
        rw [k4 q.1 (by omega) (by rw [A2]; intro z; have z2 : sz + 59 ≤ q.1 := z; omega)]
        exact ho3 q.1 hlt)
      rw [← hE1] at hp1
      exact dc_wd (E := ((sz, pm_i), (fun q => sz ≤ q), G, ca, ta, sa, True)) rfl rfl (fun _ => rfl) hp1
    · have hk2 : k < 59 := hk
      have h : pm_c k < 59 := pm_lt ⟨k, hk2⟩
      show sz ≤ sz + pm_c k ∧ sz + pm_c k < sz + 59
      omega
  have hwm : tv_wd Em (td_m g_m dm_0) H4 := by
    rw [← mm_eq, ← hEm]
    refine ⟨?_, fun k hk => ?_, fun z => z.1.elim⟩
    · have hp := w4.1
      rw [← hE2] at hp
      exact hp
    · rw [mm_sh] at hk
      have hk2 : k < 40 := hk
      show sz + 59 ≤ sz + 59 + k ∧ sz + 59 + k < sz + 99
      omega
  exact hloop Ls4 H4 locs4 hlr5 hwc hwm (by rw [hsz]; exact S4)
