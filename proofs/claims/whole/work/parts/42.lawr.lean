/-- the law's frame as a method of ours (its name is not asked for) -/
abbrev tv_yL (nm : String) : tv_Y := (⟨R_law, nm, "([I)Z"⟩, code, 4, ret)
section LR
variable {p : Program} {l : Launch} {e : Env} {s : State} {m : MethodId} {below : List Frame} {meth : Method} {c : Code} {b : Nat} {Ec Em : tv_E} {pc : Nat} {ls st : List tv_V} {Dc Dm : td_D}
/-- the law goes on from here, with both memories -/
def lw_F (p : Program) (l : Launch) (e : Env) (s : State) (m : MethodId) (below : List Frame) (meth : Method) (c : Code) (b : Nat) (Ec Em : tv_E) (pc : Nat) (ls st : List tv_V) (Dc Dm : td_D) : Prop :=
  ∀ (Ls : Array Slot) (H : Heap) (locs : List Loc), tv_lr Ec ls Ls → tv_wd Ec (td_m g_c Dc) H → tv_wd Em (td_m g_m Dm) H → va_S (fun q => s.heap.size ≤ q) s.heap H locs →
    W p l e room_1 s m #[Value.ref b] below meth c H locs 600000 7302250 (lw_Z below #[Value.ref b] s) (F0 m pc Ls (st.map (tv_v Ec)))
/-- what is known beside the frame -/
def lw_C (p : Program) (s : State) (m : MethodId) (meth : Method) (c : Code) (b L : Nat) (xs : Nat → Int32) (Ec Em : tv_E) : Prop :=
  tv_cx Ec 1200 (tv_yL meth.name) p room_1 s m #[Value.ref b] meth c ∧ tv_cx Em 1200 (tv_yL meth.name) p room_1 s m #[Value.ref b] meth c ∧
  va_X b L xs s s.heap ∧ b < s.heap.size ∧ (∀ k, k < 59 → s.heap.size ≤ tv_ad Ec k ∧ tv_ad Ec k < s.heap.size + 59) ∧ (∀ k, tv_ad Em k = s.heap.size + 59 + k) ∧ tv_A Ec = (fun q => s.heap.size ≤ q ∧ q < s.heap.size + 59) ∧ tv_A Em = (fun q => s.heap.size + 59 ≤ q ∧ q < s.heap.size + 99) ∧
  ¬ tv_al Ec ∧ ¬ tv_al Em ∧ tv_ta Ec 2 = b ∧ tv_ta Ec 3 = s.heap.size + 59 ∧ tv_hE Ec ∧ tv_hE Em
variable {L : Nat} {xs : Nat → Int32}
theorem lg_aloadR {k : Fin 4} {i r : Nat} (C : lw_C p s m meth c b L xs Ec Em) (hi : (k : Nat) = i) (hg : ls[i]? = some (tv_R (r + 1))) (hd : decode code pc = .ok (.aload_n k, 1)) (hs : lw_F p l e s m below meth c b Ec Em (pc + 1) ls (tv_R (r + 1) :: st) Dc Dm) : lw_F p l e s m below meth c b Ec Em pc ls st Dc Dm :=
  fun Ls H locs hl h1 h2 h3 => lv_aload_n C.1.1 C.1.2.1 hd hi (hl.2.2 i _ hg (by intro q; cases q)) (hs Ls H locs hl h1 h2 h3)
theorem lg_aloadS {k : Fin 4} {i r : Nat} (C : lw_C p s m meth c b L xs Ec Em) (hi : (k : Nat) = i) (hg : ls[i]? = some (tv_S r)) (hd : decode code pc = .ok (.aload_n k, 1)) (hs : lw_F p l e s m below meth c b Ec Em (pc + 1) ls (tv_S r :: st) Dc Dm) : lw_F p l e s m below meth c b Ec Em pc ls st Dc Dm :=
  fun Ls H locs hl h1 h2 h3 => lv_aload_n C.1.1 C.1.2.1 hd hi (hl.2.2 i _ hg (by intro q; cases q)) (hs Ls H locs hl h1 h2 h3)
theorem lg_iload {k : Fin 4} {i : Nat} {a : Int} (C : lw_C p s m meth c b L xs Ec Em) (hi : (k : Nat) = i) (hg : ls[i]? = some (tv_I a)) (hd : decode code pc = .ok (.iload_n k, 1)) (hs : lw_F p l e s m below meth c b Ec Em (pc + 1) ls (tv_I a :: st) Dc Dm) : lw_F p l e s m below meth c b Ec Em pc ls st Dc Dm :=
  fun Ls H locs hl h1 h2 h3 => lv_iload_n C.1.1 C.1.2.1 hd hi (hl.2.2 i _ hg (by intro q; cases q)) (hs Ls H locs hl h1 h2 h3)
theorem lg_iconst {v : Int} (C : lw_C p s m meth c b L xs Ec Em) (hd : decode code pc = .ok (.iconst v, 1)) (hs : lw_F p l e s m below meth c b Ec Em (pc + 1) ls (tv_I v :: st) Dc Dm) : lw_F p l e s m below meth c b Ec Em pc ls st Dc Dm :=
  fun Ls H locs hl h1 h2 h3 => lv_iconst C.1.1 C.1.2.1 hd rfl (hs Ls H locs hl h1 h2 h3)
theorem lg_bipush {v : Int} (C : lw_C p s m meth c b L xs Ec Em) (hv : (decide (-128 ≤ v) && decide (v ≤ 127)) = true) (hd : decode code pc = .ok (.bipush v, 2)) (hs : lw_F p l e s m below meth c b Ec Em (pc + 2) ls (tv_I v :: st) Dc Dm) : lw_F p l e s m below meth c b Ec Em pc ls st Dc Dm :=
  fun Ls H locs hl h1 h2 h3 => lv_bipush C.1.1 C.1.2.1 hd (tv_b8 hv).1 (hs Ls H locs hl h1 h2 h3)
theorem lg_iadd {a d x : Int} (C : lw_C p s m meth c b L xs Ec Em) (hx : tv_w (a + d) = x) (hd : decode code pc = .ok (.iadd, 1)) (hs : lw_F p l e s m below meth c b Ec Em (pc + 1) ls (tv_I x :: st) Dc Dm) : lw_F p l e s m below meth c b Ec Em pc ls (tv_I d :: tv_I a :: st) Dc Dm :=
  fun Ls H locs hl h1 h2 h3 => lv_iadd C.1.1 C.1.2.1 hd (by rw [tv_add, hx]; exact hs Ls H locs hl h1 h2 h3)
theorem lg_isub {a d x : Int} (C : lw_C p s m meth c b L xs Ec Em) (hx : tv_w (a - d) = x) (hd : decode code pc = .ok (.isub, 1)) (hs : lw_F p l e s m below meth c b Ec Em (pc + 1) ls (tv_I x :: st) Dc Dm) : lw_F p l e s m below meth c b Ec Em pc ls (tv_I d :: tv_I a :: st) Dc Dm :=
  fun Ls H locs hl h1 h2 h3 => lv_isub C.1.1 C.1.2.1 hd (by rw [tv_sub, hx]; exact hs Ls H locs hl h1 h2 h3)
theorem lg_iand {a d : Int} (C : lw_C p s m meth c b L xs Ec Em) (hd : decode code pc = .ok (.iand, 1)) (hs : lw_F p l e s m below meth c b Ec Em (pc + 1) ls (tv_I (tv_and a d) :: st) Dc Dm) : lw_F p l e s m below meth c b Ec Em pc ls (tv_I d :: tv_I a :: st) Dc Dm :=
  fun Ls H locs hl h1 h2 h3 => lv_iand C.1.1 C.1.2.1 hd (by have h := hs Ls H locs hl h1 h2 h3; simpa only [List.map_cons, tv_v, tv_and, tv_ofTo] using h)
theorem lg_i2l {a : Int} (C : lw_C p s m meth c b L xs Ec Em) (ha : tv_in a) (hd : decode code pc = .ok (.i2l, 1)) (hs : lw_F p l e s m below meth c b Ec Em (pc + 1) ls (tv_J a :: st) Dc Dm) : lw_F p l e s m below meth c b Ec Em pc ls (tv_I a :: st) Dc Dm :=
  fun Ls H locs hl h1 h2 h3 => lv_i2l C.1.1 C.1.2.1 hd (tv_i2lI ha).1 (hs Ls H locs hl h1 h2 h3)
theorem lg_lshl {a d : Int} (C : lw_C p s m meth c b L xs Ec Em) (hd : decode code pc = .ok (.lshl, 1)) (hs : lw_F p l e s m below meth c b Ec Em (pc + 1) ls (tv_J (tv_shll a d) :: st) Dc Dm) : lw_F p l e s m below meth c b Ec Em pc ls (tv_I d :: tv_J a :: st) Dc Dm :=
  fun Ls H locs hl h1 h2 h3 => lv_lshl C.1.1 C.1.2.1 hd (v := Int64.ofInt (tv_shll a d)) (by rw [tv_shll, tv_ofToL]) (hs Ls H locs hl h1 h2 h3)
theorem lg_land {a d : Int} (C : lw_C p s m meth c b L xs Ec Em) (hd : decode code pc = .ok (.land, 1)) (hs : lw_F p l e s m below meth c b Ec Em (pc + 1) ls (tv_J (tv_landl a d) :: st) Dc Dm) : lw_F p l e s m below meth c b Ec Em pc ls (tv_J d :: tv_J a :: st) Dc Dm :=
  fun Ls H locs hl h1 h2 h3 => lv_land C.1.1 C.1.2.1 hd (by have h := hs Ls H locs hl h1 h2 h3; simpa only [List.map_cons, tv_v, tv_landl, tv_ofToL] using h)
theorem lg_lor {a d : Int} (C : lw_C p s m meth c b L xs Ec Em) (hd : decode code pc = .ok (.lor, 1)) (hs : lw_F p l e s m below meth c b Ec Em (pc + 1) ls (tv_J (tv_lorl a d) :: st) Dc Dm) : lw_F p l e s m below meth c b Ec Em pc ls (tv_J d :: tv_J a :: st) Dc Dm :=
  fun Ls H locs hl h1 h2 h3 => lv_lor C.1.1 C.1.2.1 hd (by have h := hs Ls H locs hl h1 h2 h3; simpa only [List.map_cons, tv_v, tv_lorl, tv_ofToL] using h)
theorem lg_ldc2 {i : Nat} {v : Int} (C : lw_C p s m meth c b L xs Ec Em) (hc : Cond.constantLong R_law i (Int64.ofInt v) ∈ tv_tb) (hd : decode code pc = .ok (.ldc2_w i, 3)) (hs : lw_F p l e s m below meth c b Ec Em (pc + 3) ls (tv_J v :: st) Dc Dm) : lw_F p l e s m below meth c b Ec Em pc ls st Dc Dm :=
  fun Ls H locs hl h1 h2 h3 => lv_ldc2 C.1.1 C.1.2.1 C.1.2.2.2.2.1 (C.1.2.2.2.2.2.1 _ hc) hd (hs Ls H locs hl h1 h2 h3)
theorem lg_iald {j : Int} (C : lw_C p s m meth c b L xs Ec Em) (hj : tv_in j ∧ 0 ≤ j ∧ j < (L : Int)) (hd : decode code pc = .ok (.iaload, 1)) (hs : lw_F p l e s m below meth c b Ec Em (pc + 1) ls (tv_I (xs j.toNat).toInt :: st) Dc Dm) : lw_F p l e s m below meth c b Ec Em pc ls (tv_I j :: tv_S 2 :: st) Dc Dm := by
  intro Ls H locs hl h1 h2 h3
  have hb : tv_v Ec (tv_S 2) = .ref b := by show Value.ref (tv_ta Ec 2) = _; rw [C.2.2.2.2.2.2.2.2.2.2.1]
  show W _ _ _ _ _ _ _ _ _ _ _ _ _ _ _ (F0 m pc Ls (Value.int (Int32.ofInt j) :: tv_v Ec (tv_S 2) :: st.map (tv_v Ec)))
  rw [hb]
  refine va_sld C.1.1 C.1.2.1 C.2.2.1 C.2.2.2.1 (Nat.not_le.mpr C.2.2.2.1) h3 (tv_vin hj.1 hj.2.1 hj.2.2) hd ?_
  rw [tv_nc hj.1 hj.2.1]
  have h := hs Ls H locs hl h1 h2 h3
  simpa only [List.map_cons, tv_v, tv_ofTo] using h
theorem lg_alen (C : lw_C p s m meth c b L xs Ec Em) (hd : decode code pc = .ok (.arraylength, 1)) (hs : lw_F p l e s m below meth c b Ec Em (pc + 1) ls (tv_I (L : Int) :: st) Dc Dm) : lw_F p l e s m below meth c b Ec Em pc ls (tv_S 2 :: st) Dc Dm := by
  intro Ls H locs hl h1 h2 h3
  have hb : tv_v Ec (tv_S 2) = .ref b := by show Value.ref (tv_ta Ec 2) = _; rw [C.2.2.2.2.2.2.2.2.2.2.1]
  show W _ _ _ _ _ _ _ _ _ _ _ _ _ _ _ (F0 m pc Ls (tv_v Ec (tv_S 2) :: st.map (tv_v Ec)))
  rw [hb]
  refine va_slen C.1.1 C.1.2.1 C.2.2.1 C.2.2.2.1 (Nat.not_le.mpr C.2.2.2.1) h3 hd ?_
  have h := hs Ls H locs hl h1 h2 h3
  have e : Int32.ofNat L = Int32.ofInt (L : Int) := by first | rfl | (rw [Int32.ofInt_natCast])
  rw [e]
  exact h
theorem lg_icmp_gt {a d f : Int} {tgt : Nat} (C : lw_C p s m meth c b L xs Ec Em) (ha : tv_in a) (hb : tv_in d) (ht : (pc : Int) + f = (tgt : Int)) (hd : decode code pc = .ok (.if_icmp .gt f, 3)) (k1 : d < a → lw_F p l e s m below meth c b Ec Em tgt ls st Dc Dm) (k2 : ¬ d < a → lw_F p l e s m below meth c b Ec Em (pc + 3) ls st Dc Dm) : lw_F p l e s m below meth c b Ec Em pc ls (tv_I d :: tv_I a :: st) Dc Dm :=
  fun Ls H locs hl h1 h2 h3 => lv_icmp_gt C.1.1 C.1.2.1 hd ht (fun q => k1 ((tv_lt hb ha).mp q) Ls H locs hl h1 h2 h3) (fun q => k2 (fun z => q ((tv_lt hb ha).mpr z)) Ls H locs hl h1 h2 h3)
theorem lg_same {a f : Int} {tgt : Nat} (C : lw_C p s m meth c b L xs Ec Em) (ht : (pc : Int) + f = (tgt : Int)) (hd : decode code pc = .ok (.if_icmp .eq f, 3)) (hs : lw_F p l e s m below meth c b Ec Em tgt ls st Dc Dm) : lw_F p l e s m below meth c b Ec Em pc ls (tv_I a :: tv_I a :: st) Dc Dm :=
  fun Ls H locs hl h1 h2 h3 => lv_icmp_eq C.1.1 C.1.2.1 hd ht (fun _ => hs Ls H locs hl h1 h2 h3) (fun q => absurd rfl q)
theorem lg_sameL {a f : Int} {tgt : Nat} (C : lw_C p s m meth c b L xs Ec Em) (ht : ((pc + 1 : Nat) : Int) + f = (tgt : Int)) (hd : decode code pc = .ok (.lcmp, 1)) (hd2 : decode code (pc + 1) = .ok (.ifCond .eq f, 3)) (hs : lw_F p l e s m below meth c b Ec Em tgt ls st Dc Dm) : lw_F p l e s m below meth c b Ec Em pc ls (tv_J a :: tv_J a :: st) Dc Dm := by
  intro Ls H locs hl h1 h2 h3
  refine W.lcmp C.1.1 C.1.2.1 hd ?_
  have e : lg_cmp (Int64.ofInt a) (Int64.ofInt a) = 0 := by
    unfold lg_cmp
    rw [if_neg (by simp), if_pos rfl]
  rw [e]
  exact lv_if_eq C.1.1 C.1.2.1 hd2 ht (fun _ => hs Ls H locs hl h1 h2 h3) (fun q => absurd rfl q)
theorem lg_goto {f : Int} {tgt : Nat} (C : lw_C p s m meth c b L xs Ec Em) (ht : (pc : Int) + f = (tgt : Int)) (hd : decode code pc = .ok (.goto f, 3)) (hs : lw_F p l e s m below meth c b Ec Em tgt ls st Dc Dm) : lw_F p l e s m below meth c b Ec Em pc ls st Dc Dm :=
  fun Ls H locs hl h1 h2 h3 => lv_goto C.1.1 C.1.2.1 hd ht (hs Ls H locs hl h1 h2 h3)
theorem lg_tabIn {a dflt lo hi off : Int} {offs : Array Int} {n i tgt : Nat} (C : lw_C p s m meth c b L xs Ec Em) (hin : tv_in a) (ha : a = lo + i) (hh : lo + i ≤ hi) (ho : offs[i]? = some off) (ht : (pc : Int) + off = (tgt : Int)) (hd : decode code pc = .ok (.tableswitch dflt lo hi offs, n)) (hs : lw_F p l e s m below meth c b Ec Em tgt ls st Dc Dm) : lw_F p l e s m below meth c b Ec Em pc ls (tv_I a :: st) Dc Dm := by
  intro Ls H locs hl h1 h2 h3
  have e : (Int32.ofInt a).toInt = a := by rw [tv_toInt, tv_w_id hin]
  refine lv_tableIn (off := off) C.1.1 C.1.2.1 hd (by rw [e]; omega) (by rw [e]; omega) ?_ ht (hs Ls H locs hl h1 h2 h3)
  rw [e, show (a - lo).toNat = i by omega]; exact ho
theorem lg_tabOut {a dflt lo hi : Int} {offs : Array Int} {n tgt : Nat} (C : lw_C p s m meth c b L xs Ec Em) (hin : tv_in a) (ha : a < lo ∨ hi < a) (ht : (pc : Int) + dflt = (tgt : Int)) (hd : decode code pc = .ok (.tableswitch dflt lo hi offs, n)) (hs : lw_F p l e s m below meth c b Ec Em tgt ls st Dc Dm) : lw_F p l e s m below meth c b Ec Em pc ls (tv_I a :: st) Dc Dm := by
  intro Ls H locs hl h1 h2 h3
  have e : (Int32.ofInt a).toInt = a := by rw [tv_toInt, tv_w_id hin]
  exact lv_tableOut C.1.1 C.1.2.1 hd (by rw [e]; exact ha) ht (hs Ls H locs hl h1 h2 h3)
theorem lg_iinc {i : Nat} {a n x : Int} (C : lw_C p s m meth c b L xs Ec Em) (hx : tv_w (a + n) = x) (ls' : List tv_V) (hg : ls[i]? = some (tv_I a)) (hk : tv_sok ls i = true) (he : ls.set i (tv_I x) = ls') (hd : decode code pc = .ok (.iinc i n, 3)) (hs : lw_F p l e s m below meth c b Ec Em (pc + 3) ls' st Dc Dm) : lw_F p l e s m below meth c b Ec Em pc ls st Dc Dm := by
  intro Ls H locs hl h1 h2 h3
  have hn : i < ls.length := (List.getElem?_eq_some_iff.mp hg).1
  obtain ⟨q, hq⟩ := List.mem_iff_getElem?.mp (tv_as_mem (E := Ec) hg (by intro q; cases q))
  subst he
  subst hx
  exact lv_iinc C.1.1 C.1.2.1 hd (tv_as_has hl) hq (tv_add a n) hn rfl (fun Ls' h => hs Ls' H locs (tv_lr_set (v := tv_I (tv_w (a + n))) hn hk h) h1 h2 h3)
theorem lg_ret (C : lw_C p s m meth c b L xs Ec Em) (hd : decode code pc = .ok (.ireturn, 1)) : lw_F p l e s m below meth c b Ec Em pc ls [tv_I 1] Dc Dm := by
  intro Ls H locs hl h1 h2 h3
  refine va_forget (fun q hq => h3.2.2 q hq) ?_
  exact lw_ret C.1.1 C.1.2.1 C.1.2.2.2.1 C.1.2.2.2.2.2.2.1 hd
/-- a call of the component -/
theorem lg_callC {y2 : tv_Y} {as : List tv_V} {n idx d : Nat} {T : u_T} {r : Int} {Dc' : td_D} {x : Option (Int × td_D)} (C : lw_C p s m meth c b L xs Ec Em) (hy : y2.1.cls = "TemperInHive") (hw : tv_mw y2 n) (hx : tv_mv y2) (hl : Cond.methodLink R_law idx y2.1 ∈ tv_tb) (hn : as.length = n) (hls : ls.length = 4) (hst : (st.map fun v => (tv_v Ec v).category).sum ≤ 8) (hdd : d ≤ 1199) (hd : decode code pc = .ok (.invokevirtual idx, 3))
    (hoa : tv_oks as) (hoM : tv_okM (td_m g_c Dc)) (hm : td_msim l Ec 1199 y2 g_c (tv_R 1 :: as) Dc x) (hxr : x = some (r, Dc'))
    (hk : tv_okM (td_m g_c Dc') → lw_F p l e s m below meth c b Ec Em (pc + 3) ls (tv_pu y2 r ++ st) Dc' Dm) : lw_F p l e s m below meth c b Ec Em pc ls (as.reverse ++ tv_R 1 :: st) Dc Dm := by
  intro Ls H locs hlr h1 h2 h3
  obtain ⟨Cc, Cm, hX, hbl, zc, zm, Ac, Am, alc, alm, ta2, ta3, hEc, hEm⟩ := C
  obtain ⟨o1, o2, o3, o4, hM⟩ := hm r (td_m g_c Dc') (by rw [hxr]; rfl) (tv_c1 trivial hoa) hoM
  have emc : tv_mc (td_m g_c Dc') - tv_mc (td_m g_c Dc) = 0 := Nat.sub_self _
  have ems : tv_ms (td_m g_c Dc') - tv_ms (td_m g_c Dc) = 0 := Nat.sub_self _
  rw [emc, ems] at hM
  have hr : (td_m g_c Dc).1[0]? = some (11, 15) := rfl
  have hcell := tv_ws_at (E := Ec) hr
  rw [tv_cell_obj (by omega)] at hcell
  have hvw : vwCl[11]? = some (y2.1.cls, TX11, 15) := by rw [hy]; rfl
  have hSA : va_S (fun q => s.heap.size ≤ q) s.heap H locs := h3
  have hSc : va_S (tv_A Ec) s.heap H locs → True := fun _ => trivial
  have pcg : ∀ U : State, U.heap = H → s.WarmedH U.vm → va_Pc ((tv_R 1 :: as).map (tv_v Ec)) (tv_pc Ec (td_m g_c Dc)) ((tv_R 1 :: as).map (tv_v Ec)).toArray U := by
    intro U hU hW
    refine ⟨rfl, by rw [hU]; exact h1, va_K.moved hW.alike Cc.2.2.2.2.2.2.2.2.1, ?_⟩
    obtain ⟨s1, s2, s3, s4, s5⟩ := Cc.2.2.2.2.2.2.2.2.2.1
    have hq : ∀ a : Nat, a < s.heap.size → ¬ tv_A Ec a → U.heap[a]? = s.heap[a]? := fun a ha _ => by rw [hU]; exact h3.2.1 a ha (Nat.not_le.mpr ha)
    refine ⟨fun k hk => ((s1 k hk).moved hW.alike).kept hq, (s2.moved hW.alike).kept hq, (s3.moved hW.alike).kept hq, fun w hw => ?_, s5.moved hW.alike⟩
    have h := s4 w hw
    have hn := (List.mem_filter.mp hw).2
    cases w <;> first | (simp [tv_isN] at hn; done) | exact va_Nw.warmM hW h | exact va_Nw.warmF hW h
  have hrun := va_runV (C := y2.1.cls) (As := as.map (tv_v Ec)) (rest := st.map (tv_v Ec)) (g := F0 m pc Ls ((as.reverse ++ tv_R 1 :: st).map (tv_v Ec))) (b := tv_ad Ec 0) (below := below) (l := l) (e := e) (locs := locs) (cells := 600000) (slots := 7302250) (meth := meth) (H := H) ⟨Cc.1, Cc.2.1, Cc.2.2.1, Cc.2.2.2.2.1, Cc.2.2.2.2.2.1⟩ hM ⟨tv_cb (d := 1199) Cc hw hl, Cc.2.2.2.2.2.1 _ hx.1, Cc.2.2.2.2.2.1 _ hx.2⟩ ⟨tv_pc_blind _, va_recv Cc.2.2.2.2.2.2.2.2.1 h1.1 hvw hcell, pcg⟩ rfl (by rw [List.length_map]; exact hn) (hlr.1.trans hls) (by rw [List.map_append, List.map_reverse, List.map_cons]; rfl) (tv_room hst) hd ⟨Nat.le_refl _, Nat.le_refl _⟩
  refine tz_go (M := td_m g_c Dc) hrun hSA (fun q hq => by rw [Ac] at hq; exact hq.1) ?_
  intro H1 locs1 w1 z1 k1 S1
  rw [← tv_pu_v (E := Ec), ← List.map_append]
  refine hk o1 Ls H1 locs1 hlr w1 ⟨h2.1.kept (fun i q hq => ?_), h2.2.1, fun z => absurd z alm⟩ S1
  obtain ⟨hi, he⟩ := tv_ws_inv hq
  have hlt := (h2.1 i q hq).lt
  exact k1 q.1 hlt (by rw [Ac, he, zm]; intro z; omega)
/-- a call of the model -/
theorem lg_callM {y2 : tv_Y} {as : List tv_V} {n idx : Nat} {r : Int} {Dm' : td_D} {x : Option (Int × td_D)} (C : lw_C p s m meth c b L xs Ec Em) (hy : y2.1.cls = "TemperInHiveModel") (hw : tv_mw y2 n) (hx : tv_mv y2) (hl : Cond.methodLink R_law idx y2.1 ∈ tv_tb) (hn : as.length = n) (hls : ls.length = 4) (hst : (st.map fun v => (tv_v Ec v).category).sum ≤ 8) (hd : decode code pc = .ok (.invokevirtual idx, 3))
    (hoa : tv_oks as) (has : as.map (tv_v Em) = as.map (tv_v Ec)) (hoM : tv_okM (td_m g_m Dm)) (hm : td_msim l Em 1199 y2 g_m (tv_R 1 :: as) Dm x) (hxr : x = some (r, Dm'))
    (hk : tv_okM (td_m g_m Dm') → lw_F p l e s m below meth c b Ec Em (pc + 3) ls (tv_pu y2 r ++ st) Dc Dm') : lw_F p l e s m below meth c b Ec Em pc ls (as.reverse ++ tv_S 3 :: st) Dc Dm := by
  intro Ls H locs hlr h1 h2 h3
  obtain ⟨Cc, Cm, hX, hbl, zc, zm, Ac, Am, alc, alm, ta2, ta3, hEc, hEm⟩ := C
  obtain ⟨o1, o2, o3, o4, hM⟩ := hm r (td_m g_m Dm') (by rw [hxr]; rfl) (tv_c1 trivial hoa) hoM
  have emc : tv_mc (td_m g_m Dm') - tv_mc (td_m g_m Dm) = 0 := Nat.sub_self _
  have ems : tv_ms (td_m g_m Dm') - tv_ms (td_m g_m Dm) = 0 := Nat.sub_self _
  rw [emc, ems] at hM
  have hr : (td_m g_m Dm).1[0]? = some (12, 58) := rfl
  have hcell := tv_ws_at (E := Em) hr
  rw [tv_cell_obj (by omega)] at hcell
  have hvw : vwCl[12]? = some (y2.1.cls, TX12, 58) := by rw [hy]; rfl
  have pcg : ∀ U : State, U.heap = H → s.WarmedH U.vm → va_Pc ((tv_R 1 :: as).map (tv_v Em)) (tv_pc Em (td_m g_m Dm)) ((tv_R 1 :: as).map (tv_v Em)).toArray U := by
    intro U hU hW
    refine ⟨rfl, by rw [hU]; exact h2, va_K.moved hW.alike Cm.2.2.2.2.2.2.2.2.1, ?_⟩
    obtain ⟨s1, s2, s3, s4, s5⟩ := Cm.2.2.2.2.2.2.2.2.2.1
    have hq : ∀ a : Nat, a < s.heap.size → ¬ tv_A Em a → U.heap[a]? = s.heap[a]? := fun a ha _ => by rw [hU]; exact h3.2.1 a ha (Nat.not_le.mpr ha)
    refine ⟨fun k hk => ((s1 k hk).moved hW.alike).kept hq, (s2.moved hW.alike).kept hq, (s3.moved hW.alike).kept hq, fun w hw => ?_, s5.moved hW.alike⟩
    have h := s4 w hw
    have hn := (List.mem_filter.mp hw).2
    cases w <;> first | (simp [tv_isN] at hn; done) | exact va_Nw.warmM hW h | exact va_Nw.warmF hW h
  have e3 : tv_v Ec (tv_S 3) = .ref (tv_ad Em 0) := by show Value.ref (tv_ta Ec 3) = _; rw [ta3, zm]
  have hrun := va_runV (C := y2.1.cls) (As := as.map (tv_v Em)) (rest := st.map (tv_v Ec)) (g := F0 m pc Ls ((as.reverse ++ tv_S 3 :: st).map (tv_v Ec))) (b := tv_ad Em 0) (below := below) (l := l) (e := e) (locs := locs) (cells := 600000) (slots := 7302250) (meth := meth) (H := H) ⟨Cm.1, Cm.2.1, Cm.2.2.1, Cm.2.2.2.2.1, Cm.2.2.2.2.2.1⟩ hM ⟨tv_cb (d := 1199) Cm hw hl, Cm.2.2.2.2.2.1 _ hx.1, Cm.2.2.2.2.2.1 _ hx.2⟩ ⟨tv_pc_blind _, va_recv Cm.2.2.2.2.2.2.2.2.1 h2.1 hvw hcell, pcg⟩ rfl (by rw [List.length_map]; exact hn) (hlr.1.trans hls) (by rw [List.map_append, List.map_reverse, List.map_cons, e3, has]) (tv_room hst) hd ⟨Nat.le_refl _, Nat.le_refl _⟩
  refine tz_go (M := td_m g_m Dm) hrun h3 (fun q hq => by rw [Am] at hq; omega) ?_
  intro H1 locs1 w1 z1 k1 S1
  have epu : (tv_rs y2.2.2.2 r).head?.toList = (tv_pu y2 r).map (tv_v Ec) := (tv_pu_v y2 r).symm
  rw [epu, ← List.map_append]
  refine hk o1 Ls H1 locs1 hlr ⟨h1.1.kept (fun i q hq => ?_), h1.2.1, fun z => absurd z alc⟩ w1 S1
  obtain ⟨hi, he⟩ := tv_ws_inv hq
  have hlt := (h1.1 i q hq).lt
  have hi2 : i < 59 := hi
  have hz2 := zc i hi2
  exact k1 q.1 hlt (by rw [Am, he]; intro z; omega)
end LR
