section TM
variable {l : Launch} {E : tv_E} {d : Nat} {y : tv_Y} {pc : Nat} {ls st : List tv_V} {M : tv_M} {x : Option (Int × tv_M)}
def tv_up (f : Nat → Int) (j : Nat) (v : Int) : Nat → Int := fun i => if i = j then v else f i
theorem tv_upd_at {r j : Nat} {v : Int} : (tv_upd M r j v).2 r = tv_up (M.2 r) j v := by
  funext i; simp [tv_upd, tv_up]
theorem tv_upd_off {r r' j : Nat} {v : Int} (h : r' ≠ r) : (tv_upd M r j v).2 r' = M.2 r' := by
  funext i; simp [tv_upd, h]
theorem tv_ws_at {k c n : Nat} (h : M.1[k]? = some (c, n)) : (tv_ws E M)[k]? = some (tv_ad E k, tv_cell E c n (M.2 (k + 1))) := by
  simp [tv_ws, List.getElem?_mapIdx, h]
theorem tv_ws_inv {k : Nat} {q : Nat × va_E} (h : (tv_ws E M)[k]? = some q) : k < M.1.length ∧ q.1 = tv_ad E k := by
  simp only [tv_ws, List.getElem?_mapIdx, Option.map_eq_some_iff] at h
  obtain ⟨a, h1, h2⟩ := h
  exact ⟨(List.getElem?_eq_some_iff.mp h1).1, by rw [← h2]⟩
theorem tv_D {H : Heap} (hw : tv_wd E M H) : va_D (tv_A E) (tv_ws E M) := by
  refine ⟨fun i j p q hi hj he => ?_, fun k q hk => ?_⟩
  · have h1 := (tv_ws_inv hi).2
    have h2 := (tv_ws_inv hj).2
    exact tv_ad_inj (h1.symm.trans (he.trans h2))
  · obtain ⟨h1, h2⟩ := tv_ws_inv hk
    rw [h2]; exact hw.2.1 k h1
theorem tv_ws_upd {k c n j : Nat} {v : Int} (h : M.1[k]? = some (c, n)) : tv_ws E (tv_upd M (k + 1) j v) = (tv_ws E M).set k (tv_ad E k, tv_cell E c n (tv_up (M.2 (k + 1)) j v)) := by
  apply List.ext_getElem?
  intro i
  by_cases hi : k = i
  · subst hi
    have hl : k < (tv_ws E M).length := by simp only [tv_ws, List.length_mapIdx]; exact (List.getElem?_eq_some_iff.mp h).1
    rw [List.getElem?_set_self hl, tv_ws_at (M := tv_upd M (k + 1) j v) (c := c) (n := n) h, tv_upd_at]
  · rw [List.getElem?_set_ne hi]
    simp only [tv_ws, List.getElem?_mapIdx]
    rw [tv_upd_off (by omega)]
    rfl
theorem tv_wd_set {H H1 : Heap} {k c n j : Nat} {v : Int} (hw : tv_wd E M H) (h : M.1[k]? = some (c, n)) (ha : va_at (tv_G E) vwCl (tv_ad E k, tv_cell E c n (tv_up (M.2 (k + 1)) j v)) H1) (hz : H1.size = H.size) (ho : ∀ q, q ≠ tv_ad E k → H1[q]? = H[q]?) : tv_wd E (tv_upd M (k + 1) j v) H1 := by
  refine ⟨?_, hw.2.1, fun q => ⟨by rw [hz]; exact (hw.2.2 q).1, (hw.2.2 q).2⟩⟩
  rw [tv_ws_upd h]
  exact hw.1.set (tv_D hw) (tv_ws_at h) ha ho
/-- a cell's kind and length -/
def tv_at (M : tv_M) (r : Nat) : Nat × Nat := match r with
  | 0 => (99, 0)
  | k + 1 => (M.1[k]?).getD (99, 0)
theorem tv_at_some {r c n : Nat} (h : tv_at M r = (c, n)) (hc : c ≠ 99) : ∃ k, r = k + 1 ∧ M.1[k]? = some (c, n) := by
  cases r with
  | zero => simp [tv_at] at h; omega
  | succ k =>
    refine ⟨k, rfl, ?_⟩
    unfold tv_at at h
    cases hq : M.1[k]? with
    | none => simp [hq] at h; omega
    | some q => simp only [hq, Option.getD_some] at h; rw [h]
theorem tv_okM_upd {k c n j : Nat} {v : Int} (h : M.1[k]? = some (c, n)) (ho : tv_okM M) (hv : if c = 24 then tv_inl v else tv_in v) : tv_okM (tv_upd M (k + 1) j v) := by
  intro k' c' n' h' i
  have h1 := ho k' c' n' h' i
  simp only [tv_upd]
  by_cases hk : k' + 1 = k + 1 ∧ i = j
  · have e : k' = k := by omega
    subst e
    have e2 : (c, n) = (c', n') := Option.some.inj (h.symm.trans h')
    cases e2
    rw [if_pos hk]; exact hv
  · rw [if_neg hk]; exact h1
/-- a step that may change the memory, making no cell -/
theorem tv_mem {pc' : Nat} {st' : List tv_V} {M1 : tv_M} (hok : tv_oks ls → tv_oks st → tv_okM M → tv_oks st' ∧ tv_okM M1) (h1 : M1.1 = M.1)
    (h : ∀ (p : Program) (e : Env) (R : Room) (s : State) (m : MethodId) (args : Array Value) (below : List Frame) (meth : Method) (c : Code) (Z : State → Prop) (k j : Nat) (Ls : Array Slot) (H : Heap) (locs : List Loc), tv_oks ls → tv_oks st → tv_okM M → tv_cx E d y p R s m args meth c → tv_lr E ls Ls → tv_wd E M H → va_S (tv_A E) s.heap H locs →
      (∀ (H1 : Heap) (locs1 : List Loc), tv_wd E M1 H1 → va_S (tv_A E) s.heap H1 locs1 → W p l e R s m args below meth c H1 locs1 k j Z (F0 m pc' Ls (st'.map (tv_v E)))) → W p l e R s m args below meth c H locs k j Z (F0 m pc Ls (st.map (tv_v E))))
    (hs : tv_sim l E d y pc' ls st' M1 x) : tv_sim l E d y pc ls st M x := by
  intro r M' hx o1 o2 o3
  have e1 : tv_mc M1 = tv_mc M := by unfold tv_mc; rw [h1]
  have e2 : tv_ms M1 = tv_ms M := by unfold tv_ms; rw [h1]
  obtain ⟨a1, a2, a3, a4, a5⟩ := hs r M' hx o1 (hok o1 o2 o3).1 (hok o1 o2 o3).2
  rw [e1] at a3; rw [e2] at a4; rw [e1, e2] at a5
  refine ⟨a1, a2, a3, a4, ?_⟩
  intro p e R s m args below meth c Z k j C hc hj hret Ls H locs hl hw hS
  exact h p e R s m args below meth c Z k j Ls H locs o1 o2 o3 C hl hw hS (fun H1 locs1 hw1 hS1 => a5 p e R s m args below meth c Z k j C hc hj hret Ls H1 locs1 hl hw1 hS1)
theorem tv_none : tv_sim l E d y pc ls st M none := by intro r M' hx; cases hx
theorem tv_guard {b : Prop} [Decidable b] (h : b → tv_sim l E d y pc ls st M x) : tv_sim l E d y pc ls st M (if b then x else none) := ts_ite h (fun _ => tv_none)
/-- a class of ours: its number, name, fields, and that the tables have its words -/
def tv_cls (c : Nat) (C : String) (T : u_T) (N : Nat) : Prop := c < 20 ∧ vwCl[c]? = some (C, T, N) ∧ (∀ w ∈ u_ws C T N, w ∈ tv_tb) ∧ (∀ k, k < N → parseFieldDescriptor (T k).2.2.1 = some (tv_ty c k)) ∧ (∀ a, a < N → ∀ b, b < N → a ≠ b → (T a).2.1 ≠ (T b).2.1)
/-- a field's link -/
def tv_fl (own : String) (idx c k N : Nat) : Prop := ∃ (C : String) (T : u_T), tv_cls c C T N ∧ k < N ∧ Cond.fieldLink own idx (T k).1 (T k).2.1 (T k).2.2.1 ∈ tv_tb
def tv_flF (own : String) (idx c k N : Nat) (b : Bool) : Prop := ∃ (C : String) (T : u_T), tv_cls c C T N ∧ k < N ∧ Cond.fieldLink own idx (T k).1 (T k).2.1 (T k).2.2.1 ∈ tv_tb ∧ (T k).2.2.2 = b ∧ (b = true → (T k).1 = own)
theorem tv_cell_obj {c n : Nat} {f : Nat → Int} (hc : c < 20) : tv_cell E c n f = .inr (c, (List.range n).map (fun j => tv_fv E (tv_ty c j) (f j))) := by
  unfold tv_cell; rw [if_pos hc]
theorem tv_fs_at {c n k : Nat} {f : Nat → Int} (hk : k < n) : ((List.range n).map (fun j => tv_fv E (tv_ty c j) (f j)))[k]? = some (tv_fv E (tv_ty c k) (f k)) := by
  simp [List.getElem?_map, List.getElem?_range hk]
theorem tv_fs_set {c n k : Nat} {f : Nat → Int} {v : Int} (hk : k < n) : ((List.range n).map (fun j => tv_fv E (tv_ty c j) (f j))).set k (tv_fv E (tv_ty c k) v) = (List.range n).map (fun j => tv_fv E (tv_ty c j) (tv_up f k v j)) := by
  apply List.ext_getElem?
  intro i
  by_cases hi : k = i
  · subst hi
    rw [List.getElem?_set_self (by simpa using hk)]
    simp [List.getElem?_map, List.getElem?_range hk, tv_up]
  · rw [List.getElem?_set_ne hi]
    simp only [List.getElem?_map]
    by_cases hn : i < n
    · simp [List.getElem?_range hn, tv_up, Ne.symm hi]
    · simp [hn]
theorem ts_getI {r c k N idx : Nat} (hf : tv_fl y.1.cls idx c k N) (ht : tv_isR (tv_ty c k) = false) (hd : decode y.2.1 pc = .ok (.getfield idx, 3)) (hs : tv_sim l E d y (pc + 3) ls (tv_I (M.2 r k) :: st) M x) : tv_sim l E d y pc ls (tv_R r :: st) M (if tv_at M r = (c, N) then x else none) := by
  obtain ⟨C0, T, ⟨hc20, hcl, hin, hty, hnm⟩, hk, hlk⟩ := hf
  refine tv_guard fun hat => ?_
  obtain ⟨r, rfl, hr⟩ := tv_at_some hat (by omega)
  refine tv_mem (st' := tv_I (M.2 (r + 1) k) :: st) (M1 := M) (fun o1 o2 o3 => ⟨tv_c1 (by have h := o3 r c N hr k; rw [if_neg (by omega)] at h; exact h) (tv_t1 o2), o3⟩) rfl ?_ hs
  intro p e R s m args below meth c' Z k' j Ls H locs o1 o2 o3 C hl hw hS kk
  have hcell := tv_ws_at (E := E) hr
  rw [tv_cell_obj hc20] at hcell
  refine va_get (C := C0) (T := T) (N := N) (ci := c) C.1 C.2.1 C.2.2.2.2.2.1 hin C.2.2.2.2.1 C.2.2.2.2.2.2.2.2.1 hw.1 r hcell hcl k hk (C.2.2.2.2.2.1 _ hlk) (fun _ h9 => h9) (tv_fs_at hk) hd ?_
  have h := kk H locs hw hS
  simpa only [List.map_cons, tv_v, tv_fv, ht, Bool.false_eq_true, if_false] using h
theorem ts_getR {r c k N idx : Nat} (hf : tv_fl y.1.cls idx c k N) (ht : tv_isR (tv_ty c k) = true) (hd : decode y.2.1 pc = .ok (.getfield idx, 3)) (hs : tv_sim l E d y (pc + 3) ls (tv_R (M.2 r k).toNat :: st) M x) : tv_sim l E d y pc ls (tv_R r :: st) M (if tv_at M r = (c, N) then x else none) := by
  obtain ⟨C0, T, ⟨hc20, hcl, hin, hty, hnm⟩, hk, hlk⟩ := hf
  refine tv_guard fun hat => ?_
  obtain ⟨r, rfl, hr⟩ := tv_at_some hat (by omega)
  refine tv_mem (st' := tv_R (M.2 (r + 1) k).toNat :: st) (M1 := M) (fun o1 o2 o3 => ⟨tv_c1 trivial (tv_t1 o2), o3⟩) rfl ?_ hs
  intro p e R s m args below meth c' Z k' j Ls H locs o1 o2 o3 C hl hw hS kk
  have hcell := tv_ws_at (E := E) hr
  rw [tv_cell_obj hc20] at hcell
  refine va_get (C := C0) (T := T) (N := N) (ci := c) C.1 C.2.1 C.2.2.2.2.2.1 hin C.2.2.2.2.1 C.2.2.2.2.2.2.2.2.1 hw.1 r hcell hcl k hk (C.2.2.2.2.2.1 _ hlk) (fun _ h9 => h9) (tv_fs_at hk) hd ?_
  have h := kk H locs hw hS
  simpa only [List.map_cons, tv_fv, ht, if_true] using h
/-- the machine's own putfield, with the heap's size -/
theorem tv_putW {p : Program} {e : Env} {R : Room} {s : State} {m : MethodId} {args : Array Value} {below : List Frame} {meth : Method} {c : Code} {Z : State → Prop} {k j : Nat} {Ls : Array Slot} {H : Heap} {locs : List Loc} {rest : List Value} {ci f N idx r : Nat} {b : Bool} {v : Value} {a : Int}
    (C : tv_cx E d y p R s m args meth c) (hw : tv_wd E M H) (hS : va_S (tv_A E) s.heap H locs) (hr : M.1[r]? = some (ci, N)) (hf : tv_flF y.1.cls idx ci f N b) (hb : b = true → y.1.name = "<init>") (hv : tv_fv E (tv_ty ci f) a = v) (hn : narrow (tv_ty ci f) v = v) (hfit : fits (tv_ty ci f) v = true)
    (hd : decode y.2.1 pc = .ok (.putfield idx, 3)) (kk : ∀ (H1 : Heap) (locs1 : List Loc), tv_wd E (tv_upd M (r + 1) f a) H1 → va_S (tv_A E) s.heap H1 locs1 → W p l e R s m args below meth c H1 locs1 k j Z (F0 m (pc + 3) Ls rest)) :
    W p l e R s m args below meth c H locs k j Z (F0 m pc Ls (v :: .ref (tv_ad E r) :: rest)) := by
  obtain ⟨C0, T, ⟨hc20, hcl, hin, hty, hnm⟩, hk, hlk, hfin, hdecl⟩ := hf
  obtain ⟨hexec, hbc, hml, hrt, hown, hts, hlo, hname, hK, hst0, hal, hdf, hdl⟩ := C
  have he := tv_ws_at (E := E) hr
  rw [tv_cell_obj hc20] at he
  have hap := va_apart (own := y.1.cls) hts hin (tv_ty ci) hty hnm hK hcl
  have hP := hw.1
  have hD := tv_D hw
  obtain ⟨r0, h1, cell, q1, q2, q3, q4⟩ := hP r _ he
  have hr0 : r0 = (C0, T, N) := Option.some.inj (h1.symm.trans hcl)
  subst hr0
  obtain ⟨hSs, hfc, kC, hkC, hkind⟩ := hK.1 ci _ hcl
  obtain ⟨cf, kf, fi, fl, hi, hsl⟩ := hSs f hk
  have hlay := hts _ (hin _ (u_in_lay hk))
  unfold u_lay at hlay
  have hst := (u_facts hfc hkC (u_lays hts hin hk) hi).1
  have hlen : f < ((List.range N).map (fun j => tv_fv E (tv_ty ci j) (M.2 (r + 1) j))).length := by simpa using hk
  have fin : ∀ (H' : Heap), H'[tv_ad E r]? = some (cell.setSlot ((tv_G E).2 ci f) v) → H'.size = H.size → (∀ q, q ≠ tv_ad E r → H'[q]? = H[q]?) → tv_wd E (tv_upd M (r + 1) f a) H' ∧ ∀ L : List Loc, (∀ q ∈ L, q.base = tv_ad E r) → True := by
    intro H' e1 e2 e3
    refine ⟨tv_wd_set hw hr ?_ e2 e3, fun _ _ => trivial⟩
    rw [tv_cell_obj hc20, ← tv_fs_set hk, hv]
    exact ⟨_, hcl, t_OB.to (V := updV (vp_V _) f v) ⟨_, e1, q2, q3, t_set q4 hap hk v⟩ (fun j _ => vp_updV_set hlen v j)⟩
  cases b with
  | false =>
    rw [if_neg (by rw [hfin]; decide)] at hlay
    have h6 := u_store hfc hkC hkind hlay hi (hty f hk) hn hfit
    refine W.putK hexec hbc (f := fl) ⟨hown, hts _ hlk, ⟨_, _, _, hi⟩, hst⟩ (by rw [q2]; exact h6) q1 q3 (by rw [hsl]; exact k2_hasslot (q4 f hk)) rfl rfl hd fun H' e1 e2 e3 => ?_
    rw [hsl] at e1 ⊢
    exact kk H' _ (fin H' e1 e2 e3).1 (hS.put e2 e3 (hD.2 r _ he))
  | true =>
    rw [if_pos hfin] at hlay
    have hcf : m.cls = cf := by
      obtain ⟨_, _, c', _, _, _, -, -, hf', -, -, -, hown2, -⟩ := Cond.laysFinal_spec hlay
      have e1 : c' = cf := by have := hi.symm.trans hf'; simp at this; exact this.1.symm
      rw [hdecl rfl] at hown2
      rw [← e1]; exact Option.some.inj (hown.symm.trans hown2)
    have h6 := u_fits hfc hkC hkind (Or.inr hlay) hi (hty f hk) hn hfit
    refine W.putFinK hexec hbc hown (hts _ hlk) hi hst hcf (hname.trans (hb rfl)) (by rw [q2]; exact h6) q1 q3 (by rw [hsl]; exact k2_hasslot (q4 f hk)) rfl rfl hd fun H' e1 e2 e3 => ?_
    rw [hsl] at e1 ⊢
    exact kk H' _ (fin H' e1 e2 e3).1 (hS.put e2 e3 (hD.2 r _ he))
theorem ts_putI {r c k N idx : Nat} {a : Int} {b : Bool} (hf : tv_flF y.1.cls idx c k N b) (hb : b = true → y.1.name = "<init>") (ht : tv_ty c k = .int) (hd : decode y.2.1 pc = .ok (.putfield idx, 3)) (hs : tv_sim l E d y (pc + 3) ls st (tv_upd M r k a) x) : tv_sim l E d y pc ls (tv_I a :: tv_R r :: st) M (if tv_at M r = (c, N) then x else none) := by
  refine tv_guard fun hat => ?_
  have hc20 : c < 20 := by obtain ⟨_, _, h, _⟩ := hf; exact h.1
  obtain ⟨r, rfl, hr⟩ := tv_at_some hat (by omega)
  refine tv_mem (st' := st) (M1 := tv_upd M (r + 1) k a) (fun o1 o2 o3 => ⟨tv_t2 o2, tv_okM_upd hr o3 (by rw [if_neg (by omega)]; exact tv_h1 o2)⟩) rfl ?_ hs
  intro p e R s m args below meth c' Z k' j Ls H locs o1 o2 o3 C hl hw hS kk
  exact tv_putW C hw hS hr hf hb (v := .int (Int32.ofInt a)) (by rw [ht]; rfl) (by rw [ht]; rfl) (by rw [ht]; rfl) hd kk
theorem ts_putZ {r c k N idx : Nat} {a : Int} {b : Bool} (hf : tv_flF y.1.cls idx c k N b) (hb : b = true → y.1.name = "<init>") (ht : tv_ty c k = .boolean) (hd : decode y.2.1 pc = .ok (.putfield idx, 3)) (hs : tv_sim l E d y (pc + 3) ls st (tv_upd M r k a) x) : tv_sim l E d y pc ls (tv_I a :: tv_R r :: st) M (if tv_at M r = (c, N) ∧ (a = 0 ∨ a = 1) then x else none) := by
  refine tv_guard fun hat => ?_
  obtain ⟨hat, ha⟩ := hat
  have hc20 : c < 20 := by obtain ⟨_, _, h, _⟩ := hf; exact h.1
  obtain ⟨r, rfl, hr⟩ := tv_at_some hat (by omega)
  refine tv_mem (st' := st) (M1 := tv_upd M (r + 1) k a) (fun o1 o2 o3 => ⟨tv_t2 o2, tv_okM_upd hr o3 (by rw [if_neg (by omega)]; exact tv_h1 o2)⟩) rfl ?_ hs
  intro p e R s m args below meth c' Z k' j Ls H locs o1 o2 o3 C hl hw hS kk
  exact tv_putW C hw hS hr hf hb (v := .int (Int32.ofInt a)) (by rw [ht]; rfl) (by rw [ht]; rcases ha with rfl | rfl <;> rfl) (by rw [ht]; rcases ha with rfl | rfl <;> rfl) hd kk
theorem ts_putR {r c k N idx q : Nat} {b : Bool} {t : FieldType} (hf : tv_flF y.1.cls idx c k N b) (hb : b = true → y.1.name = "<init>") (ht : tv_ty c k = t) (hR : tv_isR t = true) (hq : ∀ z : Nat, narrow t (.ref z) = .ref z ∧ fits t (.ref z) = true) (hd : decode y.2.1 pc = .ok (.putfield idx, 3)) (hs : tv_sim l E d y (pc + 3) ls st (tv_upd M r k ((q + 1 : Nat) : Int)) x) : tv_sim l E d y pc ls (tv_R (q + 1) :: tv_R r :: st) M (if tv_at M r = (c, N) ∧ q < 1000 then x else none) := by
  refine tv_guard fun hat => ?_
  obtain ⟨hat, hq1⟩ := hat
  have hc20 : c < 20 := by obtain ⟨_, _, h, _⟩ := hf; exact h.1
  obtain ⟨r, rfl, hr⟩ := tv_at_some hat (by omega)
  refine tv_mem (st' := st) (M1 := tv_upd M (r + 1) k ((q + 1 : Nat) : Int)) (fun o1 o2 o3 => ⟨tv_t2 o2, tv_okM_upd hr o3 (by rw [if_neg (by omega)]; unfold tv_in; omega)⟩) rfl ?_ hs
  intro p e R s m args below meth c' Z k' j Ls H locs o1 o2 o3 C hl hw hS kk
  exact tv_putW C hw hS hr hf hb (v := .ref (tv_ad E q)) (by rw [ht]; simp only [tv_fv, hR, if_true, Int.toNat_natCast]; rfl) (by rw [ht]; exact (hq _).1) (by rw [ht]; exact (hq _).2) hd kk
end TM
