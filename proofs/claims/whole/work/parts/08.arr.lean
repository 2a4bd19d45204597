section TA
variable {l : Launch} {E : tv_E} {d : Nat} {y : tv_Y} {pc : Nat} {ls st : List tv_V} {M : tv_M} {x : Option (Int × tv_M)}
theorem tv_cpyf {α β : Type} (F : α → β) (f g : Nat → α) (a b n : Nat) : va_cpy (fun j => F (f j)) (fun j => F (g j)) a b n = fun j => F (va_cpy f g a b n j) := by
  funext j
  simp only [va_cpy]
  split <;> rfl
theorem tv_acn : Cond.native arraycopyName ∈ tv_tb := List.mem_filter.mpr ⟨by decide +kernel, by decide +kernel⟩
theorem tv_acs : Cond.static arraycopyName ∈ tv_tb := List.mem_filter.mpr ⟨by decide +kernel, by decide +kernel⟩
theorem tv_aci : Cond.initialized "java/lang/System" ∈ tv_tb := List.mem_filter.mpr ⟨by decide +kernel, by decide +kernel⟩
theorem tv_cell_i {c n : Nat} {f : Nat → Int} (h1 : 20 ≤ c) (h2 : c < 24) : tv_cell E c n f = .inl (tv_ca E (c - 20), n, .inl (fun j => Int32.ofInt (f j))) := by
  unfold tv_cell; rw [if_neg (by omega), if_pos h2]
theorem tv_cell_l {n : Nat} {f : Nat → Int} : tv_cell E 24 n f = .inl (tv_ca E 4, n, .inr (.inl (fun j => Int64.ofInt (f j)))) := by
  unfold tv_cell; rw [if_neg (by omega), if_neg (by omega), if_pos rfl]
theorem tv_cell_q {n : Nat} {f : Nat → Int} : tv_cell E 25 n f = .inl (tv_ca E 5, n, .inr (.inr (.inr (.inr (fun j => tv_rf E (f j)))))) := by
  unfold tv_cell; rw [if_neg (by omega), if_neg (by omega), if_neg (by omega)]
/-- an element's guard -/
abbrev tv_el (M : tv_M) (c r : Nat) (j : Int) : Prop := (tv_at M r).1 = c ∧ 0 ≤ j ∧ j < ((tv_at M r).2 : Int)
theorem tv_el_some {c r : Nat} {j : Int} (h : tv_el M c r j) (hc : c ≠ 99) : ∃ k n, r = k + 1 ∧ M.1[k]? = some (c, n) ∧ 0 ≤ j ∧ j < (n : Int) := by
  obtain ⟨h1, h2, h3⟩ := h
  obtain ⟨k, hk, hr⟩ := tv_at_some (M := M) (r := r) (c := c) (n := (tv_at M r).2) (by rw [← h1]) hc
  exact ⟨k, _, hk, hr, h2, h3⟩
theorem tv_rfv (a : Int) : va_rf (tv_rf E a) = tv_v E (tv_R a.toNat) := by
  unfold tv_rf
  cases a.toNat <;> rfl
theorem ts_iald {r : Nat} {j : Int} (hd : decode y.2.1 pc = .ok (.iaload, 1)) (hs : tv_sim l E d y (pc + 1) ls (tv_I (M.2 r j.toNat) :: st) M x) : tv_sim l E d y pc ls (tv_I j :: tv_R r :: st) M (if tv_el M 20 r j then x else none) := by
  refine tv_guard fun hel => ?_
  obtain ⟨r, n, rfl, hr, h0, hn⟩ := tv_el_some hel (by omega)
  refine tv_mem (st' := tv_I (M.2 (r + 1) j.toNat) :: st) (M1 := M) (fun o1 o2 o3 => ⟨tv_c1 (by have h := o3 r 20 n hr j.toNat; rw [if_neg (by omega)] at h; exact h) (tv_t2 o2), o3⟩) rfl ?_ hs
  intro p e R s m args below meth c Z k' jj Ls H locs o1 o2 o3 C hl hw hS kk
  have hcell := tv_ws_at (E := E) hr
  rw [tv_cell_i (by omega) (by omega)] at hcell
  refine va_iald C.1 C.2.1 C.2.2.2.2.2.2.2.2.1 hw.1 r 0 hcell rfl (tv_vin (tv_h1 o2) h0 hn) hd ?_
  rw [tv_nc (tv_h1 o2) h0]
  exact kk H locs hw hS
theorem ts_bald {r : Nat} {j : Int} (hd : decode y.2.1 pc = .ok (.baload, 1)) (hs : tv_sim l E d y (pc + 1) ls (tv_I (M.2 r j.toNat) :: st) M x) : tv_sim l E d y pc ls (tv_I j :: tv_R r :: st) M (if tv_el M 21 r j then x else none) := by
  refine tv_guard fun hel => ?_
  obtain ⟨r, n, rfl, hr, h0, hn⟩ := tv_el_some hel (by omega)
  refine tv_mem (st' := tv_I (M.2 (r + 1) j.toNat) :: st) (M1 := M) (fun o1 o2 o3 => ⟨tv_c1 (by have h := o3 r 21 n hr j.toNat; rw [if_neg (by omega)] at h; exact h) (tv_t2 o2), o3⟩) rfl ?_ hs
  intro p e R s m args below meth c Z k' jj Ls H locs o1 o2 o3 C hl hw hS kk
  have hcell := tv_ws_at (E := E) hr
  rw [tv_cell_i (by omega) (by omega)] at hcell
  refine va_bald C.1 C.2.1 C.2.2.2.2.2.2.2.2.1 hw.1 r 1 hcell rfl (tv_vin (tv_h1 o2) h0 hn) hd ?_
  rw [tv_nc (tv_h1 o2) h0]
  exact kk H locs hw hS
theorem ts_sald {r : Nat} {j : Int} (hd : decode y.2.1 pc = .ok (.saload, 1)) (hs : tv_sim l E d y (pc + 1) ls (tv_I (M.2 r j.toNat) :: st) M x) : tv_sim l E d y pc ls (tv_I j :: tv_R r :: st) M (if tv_el M 22 r j then x else none) := by
  refine tv_guard fun hel => ?_
  obtain ⟨r, n, rfl, hr, h0, hn⟩ := tv_el_some hel (by omega)
  refine tv_mem (st' := tv_I (M.2 (r + 1) j.toNat) :: st) (M1 := M) (fun o1 o2 o3 => ⟨tv_c1 (by have h := o3 r 22 n hr j.toNat; rw [if_neg (by omega)] at h; exact h) (tv_t2 o2), o3⟩) rfl ?_ hs
  intro p e R s m args below meth c Z k' jj Ls H locs o1 o2 o3 C hl hw hS kk
  have hcell := tv_ws_at (E := E) hr
  rw [tv_cell_i (by omega) (by omega)] at hcell
  refine va_sald C.1 C.2.1 C.2.2.2.2.2.2.2.2.1 hw.1 r 2 hcell rfl (tv_vin (tv_h1 o2) h0 hn) hd ?_
  rw [tv_nc (tv_h1 o2) h0]
  exact kk H locs hw hS
theorem ts_zald {r : Nat} {j : Int} (hd : decode y.2.1 pc = .ok (.baload, 1)) (hs : tv_sim l E d y (pc + 1) ls (tv_I (M.2 r j.toNat) :: st) M x) : tv_sim l E d y pc ls (tv_I j :: tv_R r :: st) M (if tv_el M 23 r j then x else none) := by
  refine tv_guard fun hel => ?_
  obtain ⟨r, n, rfl, hr, h0, hn⟩ := tv_el_some hel (by omega)
  refine tv_mem (st' := tv_I (M.2 (r + 1) j.toNat) :: st) (M1 := M) (fun o1 o2 o3 => ⟨tv_c1 (by have h := o3 r 23 n hr j.toNat; rw [if_neg (by omega)] at h; exact h) (tv_t2 o2), o3⟩) rfl ?_ hs
  intro p e R s m args below meth c Z k' jj Ls H locs o1 o2 o3 C hl hw hS kk
  have hcell := tv_ws_at (E := E) hr
  rw [tv_cell_i (by omega) (by omega)] at hcell
  refine va_zald C.1 C.2.1 C.2.2.2.2.2.2.2.2.1 hw.1 r 3 hcell rfl (tv_vin (tv_h1 o2) h0 hn) hd ?_
  rw [tv_nc (tv_h1 o2) h0]
  exact kk H locs hw hS
theorem ts_lald {r : Nat} {j : Int} (hd : decode y.2.1 pc = .ok (.laload, 1)) (hs : tv_sim l E d y (pc + 1) ls (tv_J (M.2 r j.toNat) :: st) M x) : tv_sim l E d y pc ls (tv_I j :: tv_R r :: st) M (if tv_el M 24 r j then x else none) := by
  refine tv_guard fun hel => ?_
  obtain ⟨r, n, rfl, hr, h0, hn⟩ := tv_el_some hel (by omega)
  refine tv_mem (st' := tv_J (M.2 (r + 1) j.toNat) :: st) (M1 := M) (fun o1 o2 o3 => ⟨tv_c1 (by have h := o3 r 24 n hr j.toNat; rw [if_pos rfl] at h; exact h) (tv_t2 o2), o3⟩) rfl ?_ hs
  intro p e R s m args below meth c Z k' jj Ls H locs o1 o2 o3 C hl hw hS kk
  have hcell := tv_ws_at (E := E) hr
  rw [tv_cell_l] at hcell
  refine va_lald C.1 C.2.1 C.2.2.2.2.2.2.2.2.1 hw.1 r 4 hcell rfl (tv_vin (tv_h1 o2) h0 hn) hd ?_
  rw [tv_nc (tv_h1 o2) h0]
  exact kk H locs hw hS
theorem ts_aald {r : Nat} {j : Int} (hd : decode y.2.1 pc = .ok (.aaload, 1)) (hs : tv_sim l E d y (pc + 1) ls (tv_R (M.2 r j.toNat).toNat :: st) M x) : tv_sim l E d y pc ls (tv_I j :: tv_R r :: st) M (if tv_el M 25 r j then x else none) := by
  refine tv_guard fun hel => ?_
  obtain ⟨r, n, rfl, hr, h0, hn⟩ := tv_el_some hel (by omega)
  refine tv_mem (st' := tv_R (M.2 (r + 1) j.toNat).toNat :: st) (M1 := M) (fun o1 o2 o3 => ⟨tv_c1 trivial (tv_t2 o2), o3⟩) rfl ?_ hs
  intro p e R s m args below meth c Z k' jj Ls H locs o1 o2 o3 C hl hw hS kk
  have hcell := tv_ws_at (E := E) hr
  rw [tv_cell_q] at hcell
  refine va_aldq C.1 C.2.1 C.2.2.2.2.2.2.2.2.1 hw.1 r 5 hcell rfl (tv_vin (tv_h1 o2) h0 hn) hd ?_
  rw [tv_nc (tv_h1 o2) h0, tv_rfv]
  exact kk H locs hw hS
theorem ts_sald0 {q : Nat} {j : Int} (hq : q < 3) (hd : decode y.2.1 pc = .ok (.iaload, 1)) (ho : tv_in ((tv_sa E q).2 j.toNat)) (hs : tv_sim l E d y (pc + 1) ls (tv_I ((tv_sa E q).2 j.toNat) :: st) M x) : tv_sim l E d y pc ls (tv_I j :: tv_S q :: st) M (if 0 ≤ j ∧ j < ((tv_sa E q).1 : Int) then x else none) := by
  refine tv_guard fun hel => ?_
  refine tv_mem (st' := tv_I ((tv_sa E q).2 j.toNat) :: st) (M1 := M) (fun o1 o2 o3 => ⟨tv_c1 ho (tv_t2 o2), o3⟩) rfl ?_ hs
  intro p e R s m args below meth c Z k' jj Ls H locs o1 o2 o3 C hl hw hS kk
  refine va_ti C.1 C.2.1 (C.2.2.2.2.2.2.2.2.2.1.1 q hq) hS (tv_vin (tv_h1 o2) hel.1 hel.2) (v := .int (Int32.ofInt ((tv_sa E q).2 j.toNat))) (by rw [tv_nc (tv_h1 o2) hel.1]) hd ?_
  exact kk H locs hw hS
theorem ts_iast {r : Nat} {j a : Int} (hd : decode y.2.1 pc = .ok (.iastore, 1)) (hs : tv_sim l E d y (pc + 1) ls st (tv_upd M r j.toNat (a)) x) : tv_sim l E d y pc ls (tv_I a :: tv_I j :: tv_R r :: st) M (if tv_el M 20 r j then x else none) := by
  refine tv_guard fun hel => ?_
  skip
  obtain ⟨r, n, rfl, hr, h0, hn⟩ := tv_el_some hel (by omega)
  refine tv_mem (st' := st) (M1 := tv_upd M (r + 1) j.toNat (a)) (fun o1 o2 o3 => ⟨tv_t1 (tv_t2 o2), tv_okM_upd hr o3 (by rw [if_neg (by omega)]; exact tv_h1 o2)⟩) rfl ?_ hs
  intro p e R s m args below meth c Z k' jj Ls H locs o1 o2 o3 C hl hw hS kk
  have ha0 := tv_ws_at (E := E) hr
  rw [tv_cell_i (by omega) (by omega)] at ha0
  have hj : tv_in j := tv_h1 (tv_t1 o2)
  have hin := tv_vin hj h0 hn
  refine W.iast C.1 C.2.1 (hw.1 r _ ha0) (((C.2.2.2.2.2.2.2.2.1).2 0 _ rfl).1 n (fun j => .int (Int32.ofInt (M.2 (r + 1) j)))) (fun q => by cases q) (by show ¬ (_ < 0 ∨ (arrV _ _ _).slots.size ≤ _); rw [arrV_size]; exact hin) rfl rfl hd fun H1 e1 z oq => ?_
  refine kk H1 _ (tv_wd_set hw hr ?_ z oq) (hS.put z oq (hw.2.1 r (List.getElem?_eq_some_iff.mp hr).1))
  rw [tv_cell_i (by omega) (by omega)]
  show H1[_]? = some (vp_cell _ _)
  rw [e1, vp_cell_i, vp_cell_i, arrV_store]
  congr 2
  funext q
  rw [tv_nc hj h0]
  by_cases hq : q = j.toNat
  · subst hq
    simp only [updV, tv_up, if_true]
    (try rfl)
  · simp [updV, tv_up, hq]
theorem ts_bast {r : Nat} {j a : Int} (hd : decode y.2.1 pc = .ok (.bastore, 1)) (hs : tv_sim l E d y (pc + 1) ls st (tv_upd M r j.toNat (tv_i2b a)) x) : tv_sim l E d y pc ls (tv_I a :: tv_I j :: tv_R r :: st) M (if tv_el M 21 r j then x else none) := by
  refine tv_guard fun hel => ?_
  skip
  obtain ⟨r, n, rfl, hr, h0, hn⟩ := tv_el_some hel (by omega)
  refine tv_mem (st' := st) (M1 := tv_upd M (r + 1) j.toNat (tv_i2b a)) (fun o1 o2 o3 => ⟨tv_t1 (tv_t2 o2), tv_okM_upd hr o3 (by rw [if_neg (by omega)]; exact (tv_i2bI a).2)⟩) rfl ?_ hs
  intro p e R s m args below meth c Z k' jj Ls H locs o1 o2 o3 C hl hw hS kk
  have ha0 := tv_ws_at (E := E) hr
  rw [tv_cell_i (by omega) (by omega)] at ha0
  have hj : tv_in j := tv_h1 (tv_t1 o2)
  have hin := tv_vin hj h0 hn
  refine W.bast C.1 C.2.1 (hw.1 r _ ha0) (((C.2.2.2.2.2.2.2.2.1).2 1 _ rfl).1 n (fun j => .int (Int32.ofInt (M.2 (r + 1) j)))) (fun q => by cases q) (by show ¬ (_ < 0 ∨ (arrV _ _ _).slots.size ≤ _); rw [arrV_size]; exact hin) rfl rfl hd fun H1 e1 z oq => ?_
  refine kk H1 _ (tv_wd_set hw hr ?_ z oq) (hS.put z oq (hw.2.1 r (List.getElem?_eq_some_iff.mp hr).1))
  rw [tv_cell_i (by omega) (by omega)]
  show H1[_]? = some (vp_cell _ _)
  rw [e1, vp_cell_i, vp_cell_i, arrV_store]
  congr 2
  funext q
  rw [tv_nc hj h0]
  by_cases hq : q = j.toNat
  · subst hq
    simp only [updV, tv_up, if_true]
    first | (rw [← (tv_i2bI a).1]; rfl) | rfl
  · simp [updV, tv_up, hq]
theorem ts_sast {r : Nat} {j a : Int} (hd : decode y.2.1 pc = .ok (.sastore, 1)) (hs : tv_sim l E d y (pc + 1) ls st (tv_upd M r j.toNat (tv_i2s a)) x) : tv_sim l E d y pc ls (tv_I a :: tv_I j :: tv_R r :: st) M (if tv_el M 22 r j then x else none) := by
  refine tv_guard fun hel => ?_
  skip
  obtain ⟨r, n, rfl, hr, h0, hn⟩ := tv_el_some hel (by omega)
  refine tv_mem (st' := st) (M1 := tv_upd M (r + 1) j.toNat (tv_i2s a)) (fun o1 o2 o3 => ⟨tv_t1 (tv_t2 o2), tv_okM_upd hr o3 (by rw [if_neg (by omega)]; exact (tv_i2sI a).2)⟩) rfl ?_ hs
  intro p e R s m args below meth c Z k' jj Ls H locs o1 o2 o3 C hl hw hS kk
  have ha0 := tv_ws_at (E := E) hr
  rw [tv_cell_i (by omega) (by omega)] at ha0
  have hj : tv_in j := tv_h1 (tv_t1 o2)
  have hin := tv_vin hj h0 hn
  refine W.sast C.1 C.2.1 (hw.1 r _ ha0) (((C.2.2.2.2.2.2.2.2.1).2 2 _ rfl).1 n (fun j => .int (Int32.ofInt (M.2 (r + 1) j)))) (fun q => by cases q) (by show ¬ (_ < 0 ∨ (arrV _ _ _).slots.size ≤ _); rw [arrV_size]; exact hin) rfl rfl hd fun H1 e1 z oq => ?_
  refine kk H1 _ (tv_wd_set hw hr ?_ z oq) (hS.put z oq (hw.2.1 r (List.getElem?_eq_some_iff.mp hr).1))
  rw [tv_cell_i (by omega) (by omega)]
  show H1[_]? = some (vp_cell _ _)
  rw [e1, vp_cell_i, vp_cell_i, arrV_store]
  congr 2
  funext q
  rw [tv_nc hj h0]
  by_cases hq : q = j.toNat
  · subst hq
    simp only [updV, tv_up, if_true]
    first | (rw [← (tv_i2sI a).1]; rfl) | rfl
  · simp [updV, tv_up, hq]
theorem ts_zast {r : Nat} {j a : Int} (hd : decode y.2.1 pc = .ok (.bastore, 1)) (hs : tv_sim l E d y (pc + 1) ls st (tv_upd M r j.toNat (a)) x) : tv_sim l E d y pc ls (tv_I a :: tv_I j :: tv_R r :: st) M (if tv_el M 23 r j ∧ (a = 0 ∨ a = 1) then x else none) := by
  refine tv_guard fun hel => ?_
  obtain ⟨hel, ha⟩ := hel
  obtain ⟨r, n, rfl, hr, h0, hn⟩ := tv_el_some hel (by omega)
  refine tv_mem (st' := st) (M1 := tv_upd M (r + 1) j.toNat (a)) (fun o1 o2 o3 => ⟨tv_t1 (tv_t2 o2), tv_okM_upd hr o3 (by rw [if_neg (by omega)]; exact tv_h1 o2)⟩) rfl ?_ hs
  intro p e R s m args below meth c Z k' jj Ls H locs o1 o2 o3 C hl hw hS kk
  have ha0 := tv_ws_at (E := E) hr
  rw [tv_cell_i (by omega) (by omega)] at ha0
  have hj : tv_in j := tv_h1 (tv_t1 o2)
  have hin := tv_vin hj h0 hn
  refine W.zast C.1 C.2.1 (hw.1 r _ ha0) (((C.2.2.2.2.2.2.2.2.1).2 3 _ rfl).1 n (fun j => .int (Int32.ofInt (M.2 (r + 1) j)))) (fun q => by cases q) (by show ¬ (_ < 0 ∨ (arrV _ _ _).slots.size ≤ _); rw [arrV_size]; exact hin) rfl rfl hd fun H1 e1 z oq => ?_
  refine kk H1 _ (tv_wd_set hw hr ?_ z oq) (hS.put z oq (hw.2.1 r (List.getElem?_eq_some_iff.mp hr).1))
  rw [tv_cell_i (by omega) (by omega)]
  show H1[_]? = some (vp_cell _ _)
  rw [e1, vp_cell_i, vp_cell_i, arrV_store]
  congr 2
  funext q
  rw [tv_nc hj h0]
  by_cases hq : q = j.toNat
  · subst hq
    simp only [updV, tv_up, if_true]
    rcases ha with rfl | rfl <;> rfl
  · simp [updV, tv_up, hq]
theorem ts_last {r : Nat} {j a : Int} (hd : decode y.2.1 pc = .ok (.lastore, 1)) (hs : tv_sim l E d y (pc + 1) ls st (tv_upd M r j.toNat a) x) : tv_sim l E d y pc ls (tv_J a :: tv_I j :: tv_R r :: st) M (if tv_el M 24 r j then x else none) := by
  refine tv_guard fun hel => ?_
  obtain ⟨r, n, rfl, hr, h0, hn⟩ := tv_el_some hel (by omega)
  refine tv_mem (st' := st) (M1 := tv_upd M (r + 1) j.toNat a) (fun o1 o2 o3 => ⟨tv_t1 (tv_t2 o2), tv_okM_upd hr o3 (by rw [if_pos rfl]; exact tv_h1 o2)⟩) rfl ?_ hs
  intro p e R s m args below meth c Z k' jj Ls H locs o1 o2 o3 C hl hw hS kk
  have ha0 := tv_ws_at (E := E) hr
  rw [tv_cell_l] at ha0
  have hj : tv_in j := tv_h1 (tv_t1 o2)
  have hin := tv_vin hj h0 hn
  refine W.last C.1 C.2.1 (hw.1 r _ ha0) (((C.2.2.2.2.2.2.2.2.1).2 4 _ rfl).1 n (fun j => .long (Int64.ofInt (M.2 (r + 1) j)))) (fun q => by cases q) (by show ¬ (_ < 0 ∨ (arrV _ _ _).slots.size ≤ _); rw [arrV_size]; exact hin) rfl rfl hd fun H1 e1 z oq => ?_
  refine kk H1 _ (tv_wd_set hw hr ?_ z oq) (hS.put z oq (hw.2.1 r (List.getElem?_eq_some_iff.mp hr).1))
  rw [tv_cell_l]
  show H1[_]? = some (vp_cell _ _)
  rw [e1, vp_cell_l, vp_cell_l, arrV_store]
  congr 2
  funext q
  rw [tv_nc hj h0]
  by_cases hq : q = j.toNat
  · subst hq
    simp only [updV, tv_up, if_true]
    (try rfl)
  · simp [updV, tv_up, hq]
theorem ts_aast {r q ci N : Nat} {j : Int} (hc : tv_cls ci "TemperInHive$Shelf" TX6 N) (hd : decode y.2.1 pc = .ok (.aastore, 1)) (hs : tv_sim l E d y (pc + 1) ls st (tv_upd M r j.toNat ((q + 1 : Nat) : Int)) x) : tv_sim l E d y pc ls (tv_R (q + 1) :: tv_I j :: tv_R r :: st) M (if tv_el M 25 r j ∧ tv_at M (q + 1) = (ci, N) ∧ q < 1000 then x else none) := by
  refine tv_guard fun hel => ?_
  obtain ⟨hel, hv, hq⟩ := hel
  obtain ⟨hc20, hcl, -⟩ := hc
  obtain ⟨r, n, rfl, hr, h0, hn⟩ := tv_el_some hel (by omega)
  obtain ⟨q', hq', hrq⟩ := tv_at_some hv (by omega)
  have hqe : q' = q := by omega
  subst hqe
  refine tv_mem (st' := st) (M1 := tv_upd M (r + 1) j.toNat ((q' + 1 : Nat) : Int)) (fun o1 o2 o3 => ⟨tv_t1 (tv_t2 o2), tv_okM_upd hr o3 (by rw [if_neg (by omega)]; unfold tv_in; omega)⟩) rfl ?_ hs
  intro p e R s m args below meth c Z k' jj Ls H locs o1 o2 o3 C hl hw hS kk
  have ha0 := tv_ws_at (E := E) hr
  rw [tv_cell_q] at ha0
  have hv0 := tv_ws_at (E := E) hrq
  rw [tv_cell_obj hc20] at hv0
  have hj : tv_in j := tv_h1 (tv_t1 o2)
  have hin := tv_vin hj h0 hn
  have hlt : (Int32.ofInt j).toNatClampNeg < n := Nat.not_le.mp fun q => hin (Or.inr q)
  have h00 : ¬ Int32.ofInt j < 0 := fun q => hin (Or.inl q)
  have hK := C.2.2.2.2.2.2.2.2.1
  have hP := hw.1
  obtain ⟨r', hr', cellV, g1, g2, g3, -⟩ := hP q' _ hv0
  have hcls := (hK.1 ci _ hcl).2
  obtain ⟨kA, comp, k1, k2, k3, -⟩ := (hK.2 5 _ rfl).2
  have hcomp : comp = (tv_G E).1 ci := Option.some.inj (k3.symm.trans hcls.1)
  subst hcomp
  obtain ⟨kC, hkC, -⟩ := hcls.2
  refine W.aast C.1 C.2.1 (hP r _ ha0) (fun q h => by cases h) (fun h => by cases h) k1 k2 rfl hkC ⟨h00, by show _ < (arrV _ _ _).slots.size; rw [arrV_size]; exact hlt⟩ g1 (fun q h => by rw [g3] at h; cases h) (by rw [g2]; exact hkC) (by rw [g2]; exact va_assign hcls) rfl rfl hd fun H1 e1 z oq => ?_
  refine kk H1 _ (tv_wd_set hw hr ?_ z oq) (hS.put z oq (hw.2.1 r (List.getElem?_eq_some_iff.mp hr).1))
  rw [tv_cell_q]
  show H1[_]? = some (vp_cell _ _)
  rw [e1, vp_cell_q, vp_cell_q, arrV_store]
  congr 2
  funext q
  rw [tv_nc hj h0]
  by_cases hq : q = j.toNat
  · subst hq
    simp only [updV, tv_up, if_true]
    rfl
  · simp [updV, tv_up, hq]
/-- arraycopy -/
def tv_cpy (M : tv_M) (r0 sp r1 dp n : Nat) : tv_M := (M.1, fun r j => if r = r1 ∧ dp ≤ j ∧ j < dp + n then M.2 r0 (sp + (j - dp)) else M.2 r j)
theorem tv_ws_cpy {k c n0 r0 sp dp n : Nat} (h : M.1[k]? = some (c, n0)) : tv_ws E (tv_cpy M r0 sp (k + 1) dp n) = (tv_ws E M).set k (tv_ad E k, tv_cell E c n0 (va_cpy (M.2 r0) (M.2 (k + 1)) sp dp n)) := by
  apply List.ext_getElem?
  intro i
  by_cases hi : k = i
  · subst hi
    have hl : k < (tv_ws E M).length := by simp only [tv_ws, List.length_mapIdx]; exact (List.getElem?_eq_some_iff.mp h).1
    rw [List.getElem?_set_self hl, tv_ws_at (M := tv_cpy M r0 sp (k + 1) dp n) (c := c) (n := n0) h]
    congr 3
    funext j
    simp [tv_cpy, va_cpy]
  · rw [List.getElem?_set_ne hi]
    simp only [tv_ws, List.getElem?_mapIdx]
    have e : (tv_cpy M r0 sp (k + 1) dp n).2 (i + 1) = M.2 (i + 1) := by
      funext j
      have : ¬ (i = k) := fun q => hi q.symm
      simp [tv_cpy, this]
    rw [e]
    rfl
theorem ts_cpyi {r0 r1 idx : Nat} {sp dp n : Int} (hal : ¬ tv_al E) (g7 : ls.length = y.2.2.1) (hc : Cond.methodLink y.1.cls idx arraycopyName ∈ tv_tb) (hst : (st.map fun v => (tv_v E v).category).sum ≤ 8) (hd : decode y.2.1 pc = .ok (.invokestatic idx, 3)) (hs : tv_sim l E (d + 1) y (pc + 3) ls st (tv_cpy M r0 sp.toNat r1 dp.toNat n.toNat) x) : tv_sim l E (d + 1) y pc ls (tv_I n :: tv_I dp :: tv_R r1 :: tv_I sp :: tv_R r0 :: st) M (if (tv_at M r0).1 = 20 ∧ (tv_at M r1).1 = 20 ∧ 0 ≤ sp ∧ 0 ≤ dp ∧ 0 ≤ n ∧ sp + n ≤ ((tv_at M r0).2 : Int) ∧ dp + n ≤ ((tv_at M r1).2 : Int) then x else none) := by
  refine tv_guard fun hel => ?_
  obtain ⟨g0, g1, g2, g3, g4, g5, g6⟩ := hel
  obtain ⟨r0, rfl, hr0⟩ := tv_at_some (M := M) (r := r0) (c := 20) (n := (tv_at M r0).2) (by rw [← g0]) (by omega)
  obtain ⟨r1, rfl, hr1⟩ := tv_at_some (M := M) (r := r1) (c := 20) (n := (tv_at M r1).2) (by rw [← g1]) (by omega)
  generalize hn0 : (tv_at M (r0 + 1)).2 = n0 at g5 hr0
  generalize hn1 : (tv_at M (r1 + 1)).2 = n1 at g6 hr1
  refine tv_mem (st' := st) (M1 := tv_cpy M (r0 + 1) sp.toNat (r1 + 1) dp.toNat n.toNat) (fun o1 o2 o3 => ⟨tv_t1 (tv_t2 (tv_t2 o2)), ?_⟩) rfl ?_ hs
  · intro k c' n' h' i
    simp only [tv_cpy]
    by_cases hk : k + 1 = r1 + 1 ∧ dp.toNat ≤ i ∧ i < dp.toNat + n.toNat
    · have e : k = r1 := by omega
      subst e
      have e2 := Option.some.inj (hr1.symm.trans h')
      cases e2
      rw [if_pos hk]
      exact o3 r0 20 n0 hr0 _
    · rw [if_neg hk]; exact o3 k c' n' h' i
  · intro p e R s m args below meth c Z k' jj Ls H locs o1 o2 o3 C hl hw hS kk
    have hn : tv_in n := tv_h1 o2
    have hdp : tv_in dp := tv_h1 (tv_t1 o2)
    have hsp : tv_in sp := tv_h1 (tv_t1 (tv_t2 o2))
    have c0 := tv_ws_at (E := E) hr0
    have c1 := tv_ws_at (E := E) hr1
    rw [tv_cell_i (by omega) (by omega)] at c0 c1
    have en := tv_nc hn g4
    have ed := tv_nc hdp g3
    have es := tv_nc hsp g2
    have hF : 1 ≤ R.frames := by have := C.2.2.2.2.2.2.2.2.2.2.2.1; omega
    have hL : ((st.map (tv_v E)).map fun v => v.category).sum + (nativeFrameWords "java/lang/System" "arraycopy" 5 + 11) ≤ R.locals := by
      have h1 := C.2.2.2.2.2.2.2.2.2.2.2.2
      have h2 : nativeFrameWords "java/lang/System" "arraycopy" 5 ≤ 40 := by decide +kernel
      have h3 : ((st.map (tv_v E)).map fun v => v.category).sum ≤ 8 := by rw [List.map_map]; exact hst
      omega
    refine va_copyi C.1 C.2.1 (hml := by rw [C.2.2.1, hl.1, g7]) C.2.2.2.2.1 (C.2.2.2.2.2.1 _ hc) (C.2.2.2.2.2.1 _ tv_acn) (C.2.2.2.2.2.1 _ tv_acs) (C.2.2.2.2.2.1 _ tv_aci) C.2.2.2.2.2.2.2.2.1 hw.1 (tv_D hw) hS r0 r1 0 0 c0 c1 rfl rfl rfl (fun q => by have := (tv_lt hsp tv_in0).mp q; omega) (fun q => by have := (tv_lt hdp tv_in0).mp q; omega) (fun q => by have := (tv_lt hn tv_in0).mp q; omega) (by rw [es, en]; omega) (by rw [ed, en]; omega) (fun _ _ => rfl) hF hL hd (fun H1 locs1 hP1 hD1 hS1 => ?_)
    refine kk H1 locs1 ⟨?_, hw.2.1, fun q => absurd q hal⟩ hS1
    rw [tv_ws_cpy hr1, tv_cell_i (by omega) (by omega)]
    rw [es, ed, en] at hP1
    rw [tv_cpyf] at hP1
    exact hP1
theorem ts_cpyl {r0 r1 idx : Nat} {sp dp n : Int} (hal : ¬ tv_al E) (g7 : ls.length = y.2.2.1) (hc : Cond.methodLink y.1.cls idx arraycopyName ∈ tv_tb) (hst : (st.map fun v => (tv_v E v).category).sum ≤ 8) (hd : decode y.2.1 pc = .ok (.invokestatic idx, 3)) (hs : tv_sim l E (d + 1) y (pc + 3) ls st (tv_cpy M r0 sp.toNat r1 dp.toNat n.toNat) x) : tv_sim l E (d + 1) y pc ls (tv_I n :: tv_I dp :: tv_R r1 :: tv_I sp :: tv_R r0 :: st) M (if (tv_at M r0).1 = 24 ∧ (tv_at M r1).1 = 24 ∧ 0 ≤ sp ∧ 0 ≤ dp ∧ 0 ≤ n ∧ sp + n ≤ ((tv_at M r0).2 : Int) ∧ dp + n ≤ ((tv_at M r1).2 : Int) then x else none) := by
  refine tv_guard fun hel => ?_
  obtain ⟨g0, g1, g2, g3, g4, g5, g6⟩ := hel
  obtain ⟨r0, rfl, hr0⟩ := tv_at_some (M := M) (r := r0) (c := 24) (n := (tv_at M r0).2) (by rw [← g0]) (by omega)
  obtain ⟨r1, rfl, hr1⟩ := tv_at_some (M := M) (r := r1) (c := 24) (n := (tv_at M r1).2) (by rw [← g1]) (by omega)
  generalize hn0 : (tv_at M (r0 + 1)).2 = n0 at g5 hr0
  generalize hn1 : (tv_at M (r1 + 1)).2 = n1 at g6 hr1
  refine tv_mem (st' := st) (M1 := tv_cpy M (r0 + 1) sp.toNat (r1 + 1) dp.toNat n.toNat) (fun o1 o2 o3 => ⟨tv_t1 (tv_t2 (tv_t2 o2)), ?_⟩) rfl ?_ hs
  · intro k c' n' h' i
    simp only [tv_cpy]
    by_cases hk : k + 1 = r1 + 1 ∧ dp.toNat ≤ i ∧ i < dp.toNat + n.toNat
    · have e : k = r1 := by omega
      subst e
      have e2 := Option.some.inj (hr1.symm.trans h')
      cases e2
      rw [if_pos hk]
      exact o3 r0 24 n0 hr0 _
    · rw [if_neg hk]; exact o3 k c' n' h' i
  · intro p e R s m args below meth c Z k' jj Ls H locs o1 o2 o3 C hl hw hS kk
    have hn : tv_in n := tv_h1 o2
    have hdp : tv_in dp := tv_h1 (tv_t1 o2)
    have hsp : tv_in sp := tv_h1 (tv_t1 (tv_t2 o2))
    have c0 := tv_ws_at (E := E) hr0
    have c1 := tv_ws_at (E := E) hr1
    rw [tv_cell_l] at c0 c1
    have en := tv_nc hn g4
    have ed := tv_nc hdp g3
    have es := tv_nc hsp g2
    have hF : 1 ≤ R.frames := by have := C.2.2.2.2.2.2.2.2.2.2.2.1; omega
    have hL : ((st.map (tv_v E)).map fun v => v.category).sum + (nativeFrameWords "java/lang/System" "arraycopy" 5 + 11) ≤ R.locals := by
      have h1 := C.2.2.2.2.2.2.2.2.2.2.2.2
      have h2 : nativeFrameWords "java/lang/System" "arraycopy" 5 ≤ 40 := by decide +kernel
      have h3 : ((st.map (tv_v E)).map fun v => v.category).sum ≤ 8 := by rw [List.map_map]; exact hst
      omega
    refine va_copyl C.1 C.2.1 (hml := by rw [C.2.2.1, hl.1, g7]) C.2.2.2.2.1 (C.2.2.2.2.2.1 _ hc) (C.2.2.2.2.2.1 _ tv_acn) (C.2.2.2.2.2.1 _ tv_acs) (C.2.2.2.2.2.1 _ tv_aci) C.2.2.2.2.2.2.2.2.1 hw.1 (tv_D hw) hS r0 r1 4 4 c0 c1 rfl rfl rfl (fun q => by have := (tv_lt hsp tv_in0).mp q; omega) (fun q => by have := (tv_lt hdp tv_in0).mp q; omega) (fun q => by have := (tv_lt hn tv_in0).mp q; omega) (by rw [es, en]; omega) (by rw [ed, en]; omega) (fun _ _ => rfl) hF hL hd (fun H1 locs1 hP1 hD1 hS1 => ?_)
    refine kk H1 locs1 ⟨?_, hw.2.1, fun q => absurd q hal⟩ hS1
    rw [tv_ws_cpy hr1, tv_cell_l]
    rw [es, ed, en] at hP1
    rw [tv_cpyf] at hP1
    exact hP1
end TA
