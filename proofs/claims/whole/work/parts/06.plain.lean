section TS
variable {l : Launch} {E : tv_E} {d : Nat} {y : tv_Y} {pc : Nat} {ls st : List tv_V} {M : tv_M} {x : Option (Int × tv_M)}
def tv_inb (v : Int) : Bool := decide (-2147483648 ≤ v) && decide (v ≤ 2147483647)
theorem tv_inb_in {v : Int} (h : tv_inb v = true) : tv_in v := by
  simp only [tv_inb, Bool.and_eq_true, decide_eq_true_eq] at h
  exact h
theorem tv_b8 {n : Int} (h : (decide (-128 ≤ n) && decide (n ≤ 127)) = true) : (Int8.ofInt n).toInt32 = Int32.ofInt n ∧ tv_in n := by
  simp only [Bool.and_eq_true, decide_eq_true_eq] at h
  have hi : tv_in n := by unfold tv_in; omega
  refine ⟨tv_eqI ?_, hi⟩
  rw [tv_toInt, tv_w_id hi, Int8.toInt_toInt32, Int8.toInt_ofInt]
  simp only [Int.bmod_def, Int8.size]
  omega
theorem tv_b16 {n : Int} (h : (decide (-32768 ≤ n) && decide (n ≤ 32767)) = true) : (Int16.ofInt n).toInt32 = Int32.ofInt n ∧ tv_in n := by
  simp only [Bool.and_eq_true, decide_eq_true_eq] at h
  have hi : tv_in n := by unfold tv_in; omega
  refine ⟨tv_eqI ?_, hi⟩
  rw [tv_toInt, tv_w_id hi, Int16.toInt_toInt32, Int16.toInt_ofInt]
  simp only [Int.bmod_def, Int16.size]
  omega
def tv_lcmp (a b : Int) : Int := if a < b then -1 else if a = b then 0 else 1
theorem tv_lcmpI {a b : Int} (ha : tv_inl a) (hb : tv_inl b) : lg_cmp (Int64.ofInt a) (Int64.ofInt b) = Int32.ofInt (tv_lcmp a b) := by
  unfold lg_cmp tv_lcmp
  simp only [gt_iff_lt, tv_ltl hb ha, tv_eql ha hb]
  by_cases c1 : a < b
  · rw [if_neg (by omega), if_neg (by omega), if_pos c1]; rfl
  · by_cases c2 : a = b
    · rw [if_neg (by omega), if_pos c2, if_neg c1, if_pos c2]; rfl
    · rw [if_pos (by omega), if_neg c1, if_neg c2]; rfl
def tv_i2b (a : Int) : Int := (a + 128) % 256 - 128
def tv_i2s (a : Int) : Int := (a + 32768) % 65536 - 32768
theorem tv_i2bI (a : Int) : (Int32.ofInt a).toInt8.toInt32 = Int32.ofInt (tv_i2b a) ∧ tv_in (tv_i2b a) := by
  have hi : tv_in (tv_i2b a) := by unfold tv_in tv_i2b; omega
  refine ⟨tv_eqI ?_, hi⟩
  rw [tv_toInt, tv_w_id hi, Int8.toInt_toInt32, Int32.toInt_toInt8, tv_toInt]
  simp only [Int.bmod_def, Int8.size, tv_w, tv_i2b]
  omega
theorem tv_i2sI (a : Int) : (Int32.ofInt a).toInt16.toInt32 = Int32.ofInt (tv_i2s a) ∧ tv_in (tv_i2s a) := by
  have hi : tv_in (tv_i2s a) := by unfold tv_in tv_i2s; omega
  refine ⟨tv_eqI ?_, hi⟩
  rw [tv_toInt, tv_w_id hi, Int16.toInt_toInt32, Int32.toInt_toInt16, tv_toInt]
  simp only [Int.bmod_def, Int16.size, tv_w, tv_i2s]
  omega
theorem tv_l2iI (a : Int) : (Int64.ofInt a).toInt32 = Int32.ofInt (tv_w a) := by
  apply tv_eqI
  rw [Int64.toInt_toInt32, tv_toIntL, tv_toInt, tv_ww]
  simp only [Int.bmod_def, Int32.size, tv_w, tv_wl]
  omega
theorem tv_i2lI {a : Int} (h : tv_in a) : (Int32.ofInt a).toInt64 = Int64.ofInt a ∧ tv_inl a := by
  have hi : tv_inl a := by unfold tv_in at h; unfold tv_inl; omega
  refine ⟨tv_eqJ ?_, hi⟩
  rw [Int32.toInt_toInt64, tv_toInt, tv_toIntL, tv_w_id h, tv_wl_id hi]
def tv_ushr (a b : Int) : Int := ((Int32.ofInt a).toUInt32 >>> ((Int32.ofInt b).toUInt32 &&& Int32.toUInt32 31)).toInt32.toInt
def tv_landl (a b : Int) : Int := (Int64.ofInt a &&& Int64.ofInt b).toInt
def tv_lorl (a b : Int) : Int := (Int64.ofInt a ||| Int64.ofInt b).toInt
def tv_shll (a b : Int) : Int := (Int64.ofInt a <<< ((Int32.ofInt b).toInt64 &&& 63)).toInt
theorem tv_h1 {v : tv_V} {vs : List tv_V} (h : tv_oks (v :: vs)) : tv_okv v := (tv_oks_cons.mp h).1
theorem tv_t1 {v : tv_V} {vs : List tv_V} (h : tv_oks (v :: vs)) : tv_oks vs := (tv_oks_cons.mp h).2
theorem tv_t2 {v w : tv_V} {vs : List tv_V} (h : tv_oks (v :: w :: vs)) : tv_oks vs := tv_t1 (tv_t1 h)
theorem tv_c1 {v : tv_V} {vs : List tv_V} (h : tv_okv v) (h2 : tv_oks vs) : tv_oks (v :: vs) := tv_oks_cons.mpr ⟨h, h2⟩
theorem ts_iconst {v : Int} (hv : tv_inb v = true) (hd : decode y.2.1 pc = .ok (.iconst v, 1)) (hs : tv_sim l E d y (pc + 1) ls (tv_I v :: st) M x) : tv_sim l E d y pc ls (st) M x :=
  tv_plain (st' := tv_I v :: st) (fun o1 o2 => tv_c1 (tv_inb_in hv) o2) (fun p e R s m args below meth c Z k j Ls H locs o1 o2 C hl kk => lv_iconst C.1 C.2.1 hd rfl kk) hs
theorem ts_bipush {v : Int} (hv : (decide (-128 ≤ v) && decide (v ≤ 127)) = true) (hd : decode y.2.1 pc = .ok (.bipush v, 2)) (hs : tv_sim l E d y (pc + 2) ls (tv_I v :: st) M x) : tv_sim l E d y pc ls (st) M x :=
  tv_plain (st' := tv_I v :: st) (fun o1 o2 => tv_c1 (tv_b8 hv).2 o2) (fun p e R s m args below meth c Z k j Ls H locs o1 o2 C hl kk => lv_bipush C.1 C.2.1 hd (tv_b8 hv).1 kk) hs
theorem ts_sipush {v : Int} (hv : (decide (-32768 ≤ v) && decide (v ≤ 32767)) = true) (hd : decode y.2.1 pc = .ok (.sipush v, 3)) (hs : tv_sim l E d y (pc + 3) ls (tv_I v :: st) M x) : tv_sim l E d y pc ls (st) M x :=
  tv_plain (st' := tv_I v :: st) (fun o1 o2 => tv_c1 (tv_b16 hv).2 o2) (fun p e R s m args below meth c Z k j Ls H locs o1 o2 C hl kk => lv_sipush C.1 C.2.1 hd (tv_b16 hv).1 kk) hs
theorem ts_lconst {v : Fin 2} (hd : decode y.2.1 pc = .ok (.lconst v, 1)) (hs : tv_sim l E d y (pc + 1) ls (tv_J (v : Nat) :: st) M x) : tv_sim l E d y pc ls (st) M x :=
  tv_plain (st' := tv_J (v : Nat) :: st) (fun o1 o2 => tv_c1 (by show tv_inl _; unfold tv_inl; omega) o2) (fun p e R s m args below meth c Z k j Ls H locs o1 o2 C hl kk => lv_lconst C.1 C.2.1 hd (v := Int64.ofInt ((v : Nat) : Int)) (by first | rfl | (rw [Int64.ofInt_natCast])) kk) hs
theorem ts_ldc {i : Nat} {v : Int} (hv : tv_inb v = true) (hc : Cond.constant y.1.cls i (Int32.ofInt v) ∈ tv_tb) (hd : decode y.2.1 pc = .ok (.ldc i, 2)) (hs : tv_sim l E d y (pc + 2) ls (tv_I v :: st) M x) : tv_sim l E d y pc ls (st) M x :=
  tv_plain (st' := tv_I v :: st) (fun o1 o2 => tv_c1 (tv_inb_in hv) o2) (fun p e R s m args below meth c Z k j Ls H locs o1 o2 C hl kk => lv_ldc C.1 C.2.1 C.2.2.2.2.1 (C.2.2.2.2.2.1 _ hc) hd kk) hs
theorem ts_ldcw {i : Nat} {v : Int} (hv : tv_inb v = true) (hc : Cond.constant y.1.cls i (Int32.ofInt v) ∈ tv_tb) (hd : decode y.2.1 pc = .ok (.ldc_w i, 3)) (hs : tv_sim l E d y (pc + 3) ls (tv_I v :: st) M x) : tv_sim l E d y pc ls (st) M x :=
  tv_plain (st' := tv_I v :: st) (fun o1 o2 => tv_c1 (tv_inb_in hv) o2) (fun p e R s m args below meth c Z k j Ls H locs o1 o2 C hl kk => lv_ldcw C.1 C.2.1 C.2.2.2.2.1 (C.2.2.2.2.2.1 _ hc) hd kk) hs
theorem ts_ldc2 {i : Nat} {v : Int} (hv : tv_inl v) (hc : Cond.constantLong y.1.cls i (Int64.ofInt v) ∈ tv_tb) (hd : decode y.2.1 pc = .ok (.ldc2_w i, 3)) (hs : tv_sim l E d y (pc + 3) ls (tv_J v :: st) M x) : tv_sim l E d y pc ls (st) M x :=
  tv_plain (st' := tv_J v :: st) (fun o1 o2 => tv_c1 hv o2) (fun p e R s m args below meth c Z k j Ls H locs o1 o2 C hl kk => lv_ldc2 C.1 C.2.1 C.2.2.2.2.1 (C.2.2.2.2.2.1 _ hc) hd kk) hs
theorem ts_iload_n {k : Fin 4} {i : Nat} {a : Int} (hi : (k : Nat) = i) (hg : ls[i]? = some (tv_I a)) (hd : decode y.2.1 pc = .ok (.iload_n k, 1)) (hs : tv_sim l E d y (pc + 1) ls (tv_I a :: st) M x) : tv_sim l E d y pc ls (st) M x :=
  tv_plain (st' := tv_I a :: st) (fun o1 o2 => tv_c1 (tv_oks_at o1 hg) o2) (fun p e R s m args below meth c Z k j Ls H locs o1 o2 C hl kk => lv_iload_n C.1 C.2.1 hd hi (hl.2.2 i _ hg (by intro q; cases q)) kk) hs
theorem ts_iload {i : Nat} {a : Int} (hg : ls[i]? = some (tv_I a)) (hd : decode y.2.1 pc = .ok (.iload i, 2)) (hs : tv_sim l E d y (pc + 2) ls (tv_I a :: st) M x) : tv_sim l E d y pc ls (st) M x :=
  tv_plain (st' := tv_I a :: st) (fun o1 o2 => tv_c1 (tv_oks_at o1 hg) o2) (fun p e R s m args below meth c Z k j Ls H locs o1 o2 C hl kk => lv_iload C.1 C.2.1 hd (hl.2.2 i _ hg (by intro q; cases q)) kk) hs
theorem ts_lload_n {k : Fin 4} {i : Nat} {a : Int} (hi : (k : Nat) = i) (hg : ls[i]? = some (tv_J a)) (hd : decode y.2.1 pc = .ok (.lload_n k, 1)) (hs : tv_sim l E d y (pc + 1) ls (tv_J a :: st) M x) : tv_sim l E d y pc ls (st) M x :=
  tv_plain (st' := tv_J a :: st) (fun o1 o2 => tv_c1 (tv_oks_at o1 hg) o2) (fun p e R s m args below meth c Z k j Ls H locs o1 o2 C hl kk => lv_lload_n C.1 C.2.1 hd hi (hl.2.2 i _ hg (by intro q; cases q)) kk) hs
theorem ts_lload {i : Nat} {a : Int} (hg : ls[i]? = some (tv_J a)) (hd : decode y.2.1 pc = .ok (.lload i, 2)) (hs : tv_sim l E d y (pc + 2) ls (tv_J a :: st) M x) : tv_sim l E d y pc ls (st) M x :=
  tv_plain (st' := tv_J a :: st) (fun o1 o2 => tv_c1 (tv_oks_at o1 hg) o2) (fun p e R s m args below meth c Z k j Ls H locs o1 o2 C hl kk => lv_lload C.1 C.2.1 hd (hl.2.2 i _ hg (by intro q; cases q)) kk) hs
theorem ts_aload_n {k : Fin 4} {i r : Nat} (hi : (k : Nat) = i) (hg : ls[i]? = some (tv_R r)) (hd : decode y.2.1 pc = .ok (.aload_n k, 1)) (hs : tv_sim l E d y (pc + 1) ls (tv_R r :: st) M x) : tv_sim l E d y pc ls (st) M x :=
  tv_plain (st' := tv_R r :: st) (fun o1 o2 => tv_c1 trivial o2) (fun p e R s m args below meth c Z k j Ls H locs o1 o2 C hl kk => by cases r with
    | zero => exact lv_aload_nN C.1 C.2.1 hd hi (hl.2.2 i _ hg (by intro q; cases q)) kk
    | succ r => exact lv_aload_n C.1 C.2.1 hd hi (hl.2.2 i _ hg (by intro q; cases q)) kk) hs
theorem ts_aload {i r : Nat} (hg : ls[i]? = some (tv_R r)) (hd : decode y.2.1 pc = .ok (.aload i, 2)) (hs : tv_sim l E d y (pc + 2) ls (tv_R r :: st) M x) : tv_sim l E d y pc ls (st) M x :=
  tv_plain (st' := tv_R r :: st) (fun o1 o2 => tv_c1 trivial o2) (fun p e R s m args below meth c Z k j Ls H locs o1 o2 C hl kk => by cases r with
    | zero => exact lv_aloadN C.1 C.2.1 hd (hl.2.2 i _ hg (by intro q; cases q)) kk
    | succ r => exact lv_aload C.1 C.2.1 hd (hl.2.2 i _ hg (by intro q; cases q)) kk) hs
theorem ts_aload_nS {k : Fin 4} {i r : Nat} (hi : (k : Nat) = i) (hg : ls[i]? = some (tv_S r)) (hd : decode y.2.1 pc = .ok (.aload_n k, 1)) (hs : tv_sim l E d y (pc + 1) ls (tv_S r :: st) M x) : tv_sim l E d y pc ls (st) M x :=
  tv_plain (st' := tv_S r :: st) (fun o1 o2 => tv_c1 trivial o2) (fun p e R s m args below meth c Z k j Ls H locs o1 o2 C hl kk => lv_aload_n C.1 C.2.1 hd hi (hl.2.2 i _ hg (by intro q; cases q)) kk) hs
theorem ts_iadd {a b : Int} (hd : decode y.2.1 pc = .ok (.iadd, 1)) (hs : tv_sim l E d y (pc + 1) ls (tv_I (tv_w (a + b)) :: st) M x) : tv_sim l E d y pc ls (tv_I b :: tv_I a :: st) M x :=
  tv_plain (st' := tv_I (tv_w (a + b)) :: st) (fun o1 o2 => tv_c1 (tv_w_in _) (tv_t2 o2)) (fun p e R s m args below meth c Z k j Ls H locs o1 o2 C hl kk => lv_iadd C.1 C.2.1 hd (by rw [tv_add]; exact kk)) hs
theorem ts_isub {a b : Int} (hd : decode y.2.1 pc = .ok (.isub, 1)) (hs : tv_sim l E d y (pc + 1) ls (tv_I (tv_w (a - b)) :: st) M x) : tv_sim l E d y pc ls (tv_I b :: tv_I a :: st) M x :=
  tv_plain (st' := tv_I (tv_w (a - b)) :: st) (fun o1 o2 => tv_c1 (tv_w_in _) (tv_t2 o2)) (fun p e R s m args below meth c Z k j Ls H locs o1 o2 C hl kk => lv_isub C.1 C.2.1 hd (by rw [tv_sub]; exact kk)) hs
theorem ts_imul {a b : Int} (hd : decode y.2.1 pc = .ok (.imul, 1)) (hs : tv_sim l E d y (pc + 1) ls (tv_I (tv_w (a * b)) :: st) M x) : tv_sim l E d y pc ls (tv_I b :: tv_I a :: st) M x :=
  tv_plain (st' := tv_I (tv_w (a * b)) :: st) (fun o1 o2 => tv_c1 (tv_w_in _) (tv_t2 o2)) (fun p e R s m args below meth c Z k j Ls H locs o1 o2 C hl kk => lv_imul C.1 C.2.1 hd (by rw [tv_mul]; exact kk)) hs
theorem ts_iand {a b : Int} (hd : decode y.2.1 pc = .ok (.iand, 1)) (hs : tv_sim l E d y (pc + 1) ls (tv_I (tv_and a b) :: st) M x) : tv_sim l E d y pc ls (tv_I b :: tv_I a :: st) M x :=
  tv_plain (st' := tv_I (tv_and a b) :: st) (fun o1 o2 => tv_c1 (tv_inI _) (tv_t2 o2)) (fun p e R s m args below meth c Z k j Ls H locs o1 o2 C hl kk => lv_iand C.1 C.2.1 hd (by simpa only [List.map_cons, tv_v, tv_and, tv_ofTo] using kk)) hs
theorem ts_ior {a b : Int} (hd : decode y.2.1 pc = .ok (.ior, 1)) (hs : tv_sim l E d y (pc + 1) ls (tv_I (tv_or a b) :: st) M x) : tv_sim l E d y pc ls (tv_I b :: tv_I a :: st) M x :=
  tv_plain (st' := tv_I (tv_or a b) :: st) (fun o1 o2 => tv_c1 (tv_inI _) (tv_t2 o2)) (fun p e R s m args below meth c Z k j Ls H locs o1 o2 C hl kk => lv_ior C.1 C.2.1 hd (by simpa only [List.map_cons, tv_v, tv_or, tv_ofTo] using kk)) hs
theorem ts_ixor {a b : Int} (hd : decode y.2.1 pc = .ok (.ixor, 1)) (hs : tv_sim l E d y (pc + 1) ls (tv_I (tv_xor a b) :: st) M x) : tv_sim l E d y pc ls (tv_I b :: tv_I a :: st) M x :=
  tv_plain (st' := tv_I (tv_xor a b) :: st) (fun o1 o2 => tv_c1 (tv_inI _) (tv_t2 o2)) (fun p e R s m args below meth c Z k j Ls H locs o1 o2 C hl kk => lv_ixor C.1 C.2.1 hd (by simpa only [List.map_cons, tv_v, tv_xor, tv_ofTo] using kk)) hs
theorem ts_ishl {a b : Int} (hd : decode y.2.1 pc = .ok (.ishl, 1)) (hs : tv_sim l E d y (pc + 1) ls (tv_I (tv_shl a b) :: st) M x) : tv_sim l E d y pc ls (tv_I b :: tv_I a :: st) M x :=
  tv_plain (st' := tv_I (tv_shl a b) :: st) (fun o1 o2 => tv_c1 (tv_inI _) (tv_t2 o2)) (fun p e R s m args below meth c Z k j Ls H locs o1 o2 C hl kk => lv_ishl C.1 C.2.1 hd (by simpa only [List.map_cons, tv_v, tv_shl, tv_ofTo] using kk)) hs
theorem ts_ishr {a b : Int} (hd : decode y.2.1 pc = .ok (.ishr, 1)) (hs : tv_sim l E d y (pc + 1) ls (tv_I (tv_shr a b) :: st) M x) : tv_sim l E d y pc ls (tv_I b :: tv_I a :: st) M x :=
  tv_plain (st' := tv_I (tv_shr a b) :: st) (fun o1 o2 => tv_c1 (tv_inI _) (tv_t2 o2)) (fun p e R s m args below meth c Z k j Ls H locs o1 o2 C hl kk => lv_ishr C.1 C.2.1 hd (by simpa only [List.map_cons, tv_v, tv_shr, tv_ofTo] using kk)) hs
theorem ts_iushr {a b : Int} (hd : decode y.2.1 pc = .ok (.iushr, 1)) (hs : tv_sim l E d y (pc + 1) ls (tv_I (tv_ushr a b) :: st) M x) : tv_sim l E d y pc ls (tv_I b :: tv_I a :: st) M x :=
  tv_plain (st' := tv_I (tv_ushr a b) :: st) (fun o1 o2 => tv_c1 (tv_inI _) (tv_t2 o2)) (fun p e R s m args below meth c Z k j Ls H locs o1 o2 C hl kk => lv_iushr C.1 C.2.1 hd (v := Int32.ofInt (tv_ushr a b)) (by rw [tv_ushr, tv_ofTo]) kk) hs
theorem ts_ineg {a : Int} (hd : decode y.2.1 pc = .ok (.ineg, 1)) (hs : tv_sim l E d y (pc + 1) ls (tv_I (tv_w (-a)) :: st) M x) : tv_sim l E d y pc ls (tv_I a :: st) M x :=
  tv_plain (st' := tv_I (tv_w (-a)) :: st) (fun o1 o2 => tv_c1 (tv_w_in _) (tv_t1 o2)) (fun p e R s m args below meth c Z k j Ls H locs o1 o2 C hl kk => lv_ineg C.1 C.2.1 hd (by rw [tv_neg]; exact kk)) hs
theorem ts_ladd {a b : Int} (hd : decode y.2.1 pc = .ok (.ladd, 1)) (hs : tv_sim l E d y (pc + 1) ls (tv_J (tv_wl (a + b)) :: st) M x) : tv_sim l E d y pc ls (tv_J b :: tv_J a :: st) M x :=
  tv_plain (st' := tv_J (tv_wl (a + b)) :: st) (fun o1 o2 => tv_c1 (tv_wl_in _) (tv_t2 o2)) (fun p e R s m args below meth c Z k j Ls H locs o1 o2 C hl kk => lv_ladd C.1 C.2.1 hd (by rw [tv_addl]; exact kk)) hs
theorem ts_land {a b : Int} (hd : decode y.2.1 pc = .ok (.land, 1)) (hs : tv_sim l E d y (pc + 1) ls (tv_J (tv_landl a b) :: st) M x) : tv_sim l E d y pc ls (tv_J b :: tv_J a :: st) M x :=
  tv_plain (st' := tv_J (tv_landl a b) :: st) (fun o1 o2 => tv_c1 (tv_inJ _) (tv_t2 o2)) (fun p e R s m args below meth c Z k j Ls H locs o1 o2 C hl kk => lv_land C.1 C.2.1 hd (by simpa only [List.map_cons, tv_v, tv_landl, tv_ofToL] using kk)) hs
theorem ts_lor {a b : Int} (hd : decode y.2.1 pc = .ok (.lor, 1)) (hs : tv_sim l E d y (pc + 1) ls (tv_J (tv_lorl a b) :: st) M x) : tv_sim l E d y pc ls (tv_J b :: tv_J a :: st) M x :=
  tv_plain (st' := tv_J (tv_lorl a b) :: st) (fun o1 o2 => tv_c1 (tv_inJ _) (tv_t2 o2)) (fun p e R s m args below meth c Z k j Ls H locs o1 o2 C hl kk => lv_lor C.1 C.2.1 hd (by simpa only [List.map_cons, tv_v, tv_lorl, tv_ofToL] using kk)) hs
theorem ts_lshl {a b : Int} (hd : decode y.2.1 pc = .ok (.lshl, 1)) (hs : tv_sim l E d y (pc + 1) ls (tv_J (tv_shll a b) :: st) M x) : tv_sim l E d y pc ls (tv_I b :: tv_J a :: st) M x :=
  tv_plain (st' := tv_J (tv_shll a b) :: st) (fun o1 o2 => tv_c1 (tv_inJ _) (tv_t2 o2)) (fun p e R s m args below meth c Z k j Ls H locs o1 o2 C hl kk => lv_lshl C.1 C.2.1 hd (v := Int64.ofInt (tv_shll a b)) (by rw [tv_shll, tv_ofToL]) kk) hs
theorem ts_lcmp {a b : Int} (hd : decode y.2.1 pc = .ok (.lcmp, 1)) (hs : tv_sim l E d y (pc + 1) ls (tv_I (tv_lcmp a b) :: st) M x) : tv_sim l E d y pc ls (tv_J b :: tv_J a :: st) M x :=
  tv_plain (st' := tv_I (tv_lcmp a b) :: st) (fun o1 o2 => tv_c1 (by show tv_in _; unfold tv_lcmp tv_in; split <;> (try split) <;> omega) (tv_t2 o2)) (fun p e R s m args below meth c Z k j Ls H locs o1 o2 C hl kk => W.lcmp C.1 C.2.1 hd (by rw [tv_lcmpI (tv_h1 (tv_t1 o2)) (tv_h1 o2)]; exact kk)) hs
theorem ts_i2l {a : Int} (hd : decode y.2.1 pc = .ok (.i2l, 1)) (hs : tv_sim l E d y (pc + 1) ls (tv_J a :: st) M x) : tv_sim l E d y pc ls (tv_I a :: st) M x :=
  tv_plain (st' := tv_J a :: st) (fun o1 o2 => tv_c1 (tv_i2lI (tv_h1 o2)).2 (tv_t1 o2)) (fun p e R s m args below meth c Z k j Ls H locs o1 o2 C hl kk => lv_i2l C.1 C.2.1 hd (tv_i2lI (tv_h1 o2)).1 kk) hs
theorem ts_l2i {a : Int} (hd : decode y.2.1 pc = .ok (.l2i, 1)) (hs : tv_sim l E d y (pc + 1) ls (tv_I (tv_w a) :: st) M x) : tv_sim l E d y pc ls (tv_J a :: st) M x :=
  tv_plain (st' := tv_I (tv_w a) :: st) (fun o1 o2 => tv_c1 (tv_w_in _) (tv_t1 o2)) (fun p e R s m args below meth c Z k j Ls H locs o1 o2 C hl kk => lv_l2i C.1 C.2.1 hd (tv_l2iI a) kk) hs
theorem ts_i2b {a : Int} (hd : decode y.2.1 pc = .ok (.i2b, 1)) (hs : tv_sim l E d y (pc + 1) ls (tv_I (tv_i2b a) :: st) M x) : tv_sim l E d y pc ls (tv_I a :: st) M x :=
  tv_plain (st' := tv_I (tv_i2b a) :: st) (fun o1 o2 => tv_c1 (tv_i2bI a).2 (tv_t1 o2)) (fun p e R s m args below meth c Z k j Ls H locs o1 o2 C hl kk => lv_i2b C.1 C.2.1 hd (tv_i2bI a).1 kk) hs
theorem ts_i2s {a : Int} (hd : decode y.2.1 pc = .ok (.i2s, 1)) (hs : tv_sim l E d y (pc + 1) ls (tv_I (tv_i2s a) :: st) M x) : tv_sim l E d y pc ls (tv_I a :: st) M x :=
  tv_plain (st' := tv_I (tv_i2s a) :: st) (fun o1 o2 => tv_c1 (tv_i2sI a).2 (tv_t1 o2)) (fun p e R s m args below meth c Z k j Ls H locs o1 o2 C hl kk => lv_i2s C.1 C.2.1 hd (tv_i2sI a).1 kk) hs
theorem ts_dupI {a : Int} (hd : decode y.2.1 pc = .ok (.dup, 1)) (hs : tv_sim l E d y (pc + 1) ls (tv_I a :: tv_I a :: st) M x) : tv_sim l E d y pc ls (tv_I a :: st) M x :=
  tv_plain (st' := tv_I a :: tv_I a :: st) (fun o1 o2 => tv_c1 (tv_h1 o2) o2) (fun p e R s m args below meth c Z k j Ls H locs o1 o2 C hl kk => lv_dup C.1 C.2.1 hd rfl kk) hs
theorem ts_dupR {a : Nat} (hd : decode y.2.1 pc = .ok (.dup, 1)) (hs : tv_sim l E d y (pc + 1) ls (tv_R a :: tv_R a :: st) M x) : tv_sim l E d y pc ls (tv_R a :: st) M x :=
  tv_plain (st' := tv_R a :: tv_R a :: st) (fun o1 o2 => tv_c1 (tv_h1 o2) o2) (fun p e R s m args below meth c Z k j Ls H locs o1 o2 C hl kk => lv_dup C.1 C.2.1 hd (tv_cat1 (v := tv_R a) (by intro q h; cases h)) kk) hs
theorem ts_popI {a : Int} (hd : decode y.2.1 pc = .ok (.pop, 1)) (hs : tv_sim l E d y (pc + 1) ls (st) M x) : tv_sim l E d y pc ls (tv_I a :: st) M x :=
  tv_plain (st' := st) (fun o1 o2 => tv_t1 o2) (fun p e R s m args below meth c Z k j Ls H locs o1 o2 C hl kk => lv_pop C.1 C.2.1 hd rfl kk) hs
theorem ts_dup2 {a : Int} {b : Nat} (hd : decode y.2.1 pc = .ok (.dup2, 1)) (hs : tv_sim l E d y (pc + 1) ls (tv_I a :: tv_R b :: tv_I a :: tv_R b :: st) M x) : tv_sim l E d y pc ls (tv_I a :: tv_R b :: st) M x :=
  tv_plain (st' := tv_I a :: tv_R b :: tv_I a :: tv_R b :: st) (fun o1 o2 => tv_c1 (tv_h1 o2) (tv_c1 trivial o2)) (fun p e R s m args below meth c Z k j Ls H locs o1 o2 C hl kk => lv_dup2_11 C.1 C.2.1 hd rfl (tv_cat1 (v := tv_R b) (by intro q h; cases h)) kk) hs
theorem ts_goto {f : Int} {tgt : Nat} (ht : (pc : Int) + f = (tgt : Int)) (hd : decode y.2.1 pc = .ok (.goto f, 3)) (hs : tv_sim l E d y tgt ls (st) M x) : tv_sim l E d y pc ls (st) M x :=
  tv_plain (st' := st) (fun o1 o2 => o2) (fun p e R s m args below meth c Z k j Ls H locs o1 o2 C hl kk => lv_goto C.1 C.2.1 hd ht kk) hs
theorem ts_idiv {a b : Int} (hd : decode y.2.1 pc = .ok (.idiv, 1)) (hs : tv_sim l E d y (pc + 1) ls (tv_I (tv_div a b) :: st) M x) : tv_sim l E d y pc ls (tv_I b :: tv_I a :: st) M (if b = 0 then none else x) := by
  by_cases hb : b = 0
  · rw [if_pos hb]; intro r M' hx; cases hx
  · rw [if_neg hb]
    exact tv_plain (st' := tv_I (tv_div a b) :: st) (fun o1 o2 => tv_c1 (tv_w_in _) (tv_t2 o2)) (fun p e R s m args below meth c Z k j Ls H locs o1 o2 C hl kk => lv_idiv C.1 C.2.1 hd (fun q => hb ((tv_eq (tv_h1 o2) tv_in0).mp q)) (by rw [tv_divI (tv_h1 (tv_t1 o2)) (tv_h1 o2)]; exact kk)) hs
theorem ts_irem {a b : Int} (hd : decode y.2.1 pc = .ok (.irem, 1)) (hs : tv_sim l E d y (pc + 1) ls (tv_I (tv_rem a b) :: st) M x) : tv_sim l E d y pc ls (tv_I b :: tv_I a :: st) M (if b = 0 then none else x) := by
  by_cases hb : b = 0
  · rw [if_pos hb]; intro r M' hx; cases hx
  · rw [if_neg hb]
    exact tv_plain (st' := tv_I (tv_rem a b) :: st) (fun o1 o2 => tv_c1 (tv_rem_in (tv_h1 (tv_t1 o2)) (tv_h1 o2)) (tv_t2 o2)) (fun p e R s m args below meth c Z k j Ls H locs o1 o2 C hl kk => lv_irem C.1 C.2.1 hd (fun q => hb ((tv_eq (tv_h1 o2) tv_in0).mp q)) (by rw [tv_remI (tv_h1 (tv_t1 o2)) (tv_h1 o2)]; exact kk)) hs
theorem ts_icmp_eq {a b : Int} {f : Int} {tgt : Nat} {x1 x2 : Option (Int × tv_M)} (ht : (pc : Int) + f = (tgt : Int)) (hd : decode y.2.1 pc = .ok (.if_icmp .eq f, 3)) (h1 : tv_sim l E d y tgt ls st M x1) (h2 : tv_sim l E d y (pc + 3) ls st M x2) : tv_sim l E d y pc ls (tv_I b :: tv_I a :: st) M (if a = b then x1 else x2) :=
  tv_branch (st' := st) (fun o2 => tv_t2 o2) (fun p e R s m args below meth c Z k j Ls H locs o1 o2 C k1 k2 => by have ha : tv_in a := tv_h1 (tv_t1 o2); have hb : tv_in b := tv_h1 o2; exact lv_icmp_eq C.1 C.2.1 hd ht (fun q => k1 ((tv_eq ha hb).mp q)) (fun q => k2 (fun z => q ((tv_eq ha hb).mpr z)))) h1 h2
theorem ts_if_eq {a : Int} {f : Int} {tgt : Nat} {x1 x2 : Option (Int × tv_M)} (ht : (pc : Int) + f = (tgt : Int)) (hd : decode y.2.1 pc = .ok (.ifCond .eq f, 3)) (h1 : tv_sim l E d y tgt ls st M x1) (h2 : tv_sim l E d y (pc + 3) ls st M x2) : tv_sim l E d y pc ls (tv_I a :: st) M (if a = 0 then x1 else x2) :=
  tv_branch (st' := st) (fun o2 => tv_t1 o2) (fun p e R s m args below meth c Z k j Ls H locs o1 o2 C k1 k2 => by have ha : tv_in a := tv_h1 o2; exact lv_if_eq C.1 C.2.1 hd ht (fun q => k1 ((tv_eq ha tv_in0).mp q)) (fun q => k2 (fun z => q ((tv_eq ha tv_in0).mpr z)))) h1 h2
theorem ts_icmp_ne {a b : Int} {f : Int} {tgt : Nat} {x1 x2 : Option (Int × tv_M)} (ht : (pc : Int) + f = (tgt : Int)) (hd : decode y.2.1 pc = .ok (.if_icmp .ne f, 3)) (h1 : tv_sim l E d y (pc + 3) ls st M x1) (h2 : tv_sim l E d y tgt ls st M x2) : tv_sim l E d y pc ls (tv_I b :: tv_I a :: st) M (if a = b then x1 else x2) :=
  tv_branch (st' := st) (fun o2 => tv_t2 o2) (fun p e R s m args below meth c Z k j Ls H locs o1 o2 C k1 k2 => by have ha : tv_in a := tv_h1 (tv_t1 o2); have hb : tv_in b := tv_h1 o2; exact lv_icmp_ne C.1 C.2.1 hd ht (fun q => k2 (fun z => q ((tv_eq ha hb).mpr z))) (fun q => k1 ((tv_eq ha hb).mp q))) h1 h2
theorem ts_if_ne {a : Int} {f : Int} {tgt : Nat} {x1 x2 : Option (Int × tv_M)} (ht : (pc : Int) + f = (tgt : Int)) (hd : decode y.2.1 pc = .ok (.ifCond .ne f, 3)) (h1 : tv_sim l E d y (pc + 3) ls st M x1) (h2 : tv_sim l E d y tgt ls st M x2) : tv_sim l E d y pc ls (tv_I a :: st) M (if a = 0 then x1 else x2) :=
  tv_branch (st' := st) (fun o2 => tv_t1 o2) (fun p e R s m args below meth c Z k j Ls H locs o1 o2 C k1 k2 => by have ha : tv_in a := tv_h1 o2; exact lv_if_ne C.1 C.2.1 hd ht (fun q => k2 (fun z => q ((tv_eq ha tv_in0).mpr z))) (fun q => k1 ((tv_eq ha tv_in0).mp q))) h1 h2
theorem ts_icmp_lt {a b : Int} {f : Int} {tgt : Nat} {x1 x2 : Option (Int × tv_M)} (ht : (pc : Int) + f = (tgt : Int)) (hd : decode y.2.1 pc = .ok (.if_icmp .lt f, 3)) (h1 : tv_sim l E d y tgt ls st M x1) (h2 : tv_sim l E d y (pc + 3) ls st M x2) : tv_sim l E d y pc ls (tv_I b :: tv_I a :: st) M (if a < b then x1 else x2) :=
  tv_branch (st' := st) (fun o2 => tv_t2 o2) (fun p e R s m args below meth c Z k j Ls H locs o1 o2 C k1 k2 => by have ha : tv_in a := tv_h1 (tv_t1 o2); have hb : tv_in b := tv_h1 o2; exact lv_icmp_lt C.1 C.2.1 hd ht (fun q => k1 ((tv_lt ha hb).mp q)) (fun q => k2 (fun z => q ((tv_lt ha hb).mpr z)))) h1 h2
theorem ts_if_lt {a : Int} {f : Int} {tgt : Nat} {x1 x2 : Option (Int × tv_M)} (ht : (pc : Int) + f = (tgt : Int)) (hd : decode y.2.1 pc = .ok (.ifCond .lt f, 3)) (h1 : tv_sim l E d y tgt ls st M x1) (h2 : tv_sim l E d y (pc + 3) ls st M x2) : tv_sim l E d y pc ls (tv_I a :: st) M (if a < 0 then x1 else x2) :=
  tv_branch (st' := st) (fun o2 => tv_t1 o2) (fun p e R s m args below meth c Z k j Ls H locs o1 o2 C k1 k2 => by have ha : tv_in a := tv_h1 o2; exact lv_if_lt C.1 C.2.1 hd ht (fun q => k1 ((tv_lt ha tv_in0).mp q)) (fun q => k2 (fun z => q ((tv_lt ha tv_in0).mpr z)))) h1 h2
theorem ts_icmp_ge {a b : Int} {f : Int} {tgt : Nat} {x1 x2 : Option (Int × tv_M)} (ht : (pc : Int) + f = (tgt : Int)) (hd : decode y.2.1 pc = .ok (.if_icmp .ge f, 3)) (h1 : tv_sim l E d y tgt ls st M x1) (h2 : tv_sim l E d y (pc + 3) ls st M x2) : tv_sim l E d y pc ls (tv_I b :: tv_I a :: st) M (if b ≤ a then x1 else x2) :=
  tv_branch (st' := st) (fun o2 => tv_t2 o2) (fun p e R s m args below meth c Z k j Ls H locs o1 o2 C k1 k2 => by have ha : tv_in a := tv_h1 (tv_t1 o2); have hb : tv_in b := tv_h1 o2; exact lv_icmp_ge C.1 C.2.1 hd ht (fun q => k1 ((tv_le hb ha).mp q)) (fun q => k2 (fun z => q ((tv_le hb ha).mpr z)))) h1 h2
theorem ts_if_ge {a : Int} {f : Int} {tgt : Nat} {x1 x2 : Option (Int × tv_M)} (ht : (pc : Int) + f = (tgt : Int)) (hd : decode y.2.1 pc = .ok (.ifCond .ge f, 3)) (h1 : tv_sim l E d y tgt ls st M x1) (h2 : tv_sim l E d y (pc + 3) ls st M x2) : tv_sim l E d y pc ls (tv_I a :: st) M (if 0 ≤ a then x1 else x2) :=
  tv_branch (st' := st) (fun o2 => tv_t1 o2) (fun p e R s m args below meth c Z k j Ls H locs o1 o2 C k1 k2 => by have ha : tv_in a := tv_h1 o2; exact lv_if_ge C.1 C.2.1 hd ht (fun q => k1 ((tv_le tv_in0 ha).mp q)) (fun q => k2 (fun z => q ((tv_le tv_in0 ha).mpr z)))) h1 h2
theorem ts_icmp_gt {a b : Int} {f : Int} {tgt : Nat} {x1 x2 : Option (Int × tv_M)} (ht : (pc : Int) + f = (tgt : Int)) (hd : decode y.2.1 pc = .ok (.if_icmp .gt f, 3)) (h1 : tv_sim l E d y tgt ls st M x1) (h2 : tv_sim l E d y (pc + 3) ls st M x2) : tv_sim l E d y pc ls (tv_I b :: tv_I a :: st) M (if b < a then x1 else x2) :=
  tv_branch (st' := st) (fun o2 => tv_t2 o2) (fun p e R s m args below meth c Z k j Ls H locs o1 o2 C k1 k2 => by have ha : tv_in a := tv_h1 (tv_t1 o2); have hb : tv_in b := tv_h1 o2; exact lv_icmp_gt C.1 C.2.1 hd ht (fun q => k1 ((tv_lt hb ha).mp q)) (fun q => k2 (fun z => q ((tv_lt hb ha).mpr z)))) h1 h2
theorem ts_if_gt {a : Int} {f : Int} {tgt : Nat} {x1 x2 : Option (Int × tv_M)} (ht : (pc : Int) + f = (tgt : Int)) (hd : decode y.2.1 pc = .ok (.ifCond .gt f, 3)) (h1 : tv_sim l E d y tgt ls st M x1) (h2 : tv_sim l E d y (pc + 3) ls st M x2) : tv_sim l E d y pc ls (tv_I a :: st) M (if 0 < a then x1 else x2) :=
  tv_branch (st' := st) (fun o2 => tv_t1 o2) (fun p e R s m args below meth c Z k j Ls H locs o1 o2 C k1 k2 => by have ha : tv_in a := tv_h1 o2; exact lv_if_gt C.1 C.2.1 hd ht (fun q => k1 ((tv_lt tv_in0 ha).mp q)) (fun q => k2 (fun z => q ((tv_lt tv_in0 ha).mpr z)))) h1 h2
theorem ts_icmp_le {a b : Int} {f : Int} {tgt : Nat} {x1 x2 : Option (Int × tv_M)} (ht : (pc : Int) + f = (tgt : Int)) (hd : decode y.2.1 pc = .ok (.if_icmp .le f, 3)) (h1 : tv_sim l E d y tgt ls st M x1) (h2 : tv_sim l E d y (pc + 3) ls st M x2) : tv_sim l E d y pc ls (tv_I b :: tv_I a :: st) M (if a ≤ b then x1 else x2) :=
  tv_branch (st' := st) (fun o2 => tv_t2 o2) (fun p e R s m args below meth c Z k j Ls H locs o1 o2 C k1 k2 => by have ha : tv_in a := tv_h1 (tv_t1 o2); have hb : tv_in b := tv_h1 o2; exact lv_icmp_le C.1 C.2.1 hd ht (fun q => k1 ((tv_le ha hb).mp q)) (fun q => k2 (fun z => q ((tv_le ha hb).mpr z)))) h1 h2
theorem ts_if_le {a : Int} {f : Int} {tgt : Nat} {x1 x2 : Option (Int × tv_M)} (ht : (pc : Int) + f = (tgt : Int)) (hd : decode y.2.1 pc = .ok (.ifCond .le f, 3)) (h1 : tv_sim l E d y tgt ls st M x1) (h2 : tv_sim l E d y (pc + 3) ls st M x2) : tv_sim l E d y pc ls (tv_I a :: st) M (if a ≤ 0 then x1 else x2) :=
  tv_branch (st' := st) (fun o2 => tv_t1 o2) (fun p e R s m args below meth c Z k j Ls H locs o1 o2 C k1 k2 => by have ha : tv_in a := tv_h1 o2; exact lv_if_le C.1 C.2.1 hd ht (fun q => k1 ((tv_le ha tv_in0).mp q)) (fun q => k2 (fun z => q ((tv_le ha tv_in0).mpr z)))) h1 h2
theorem ts_istore_n {k : Fin 4} {i : Nat} {a : Int} (hi : (k : Nat) = i) (hn : i < ls.length) (hk : tv_sok ls i = true) (hd : decode y.2.1 pc = .ok (.istore_n k, 1)) (hs : tv_sim l E d y (pc + 1) (ls.set i (tv_I a)) st M x) : tv_sim l E d y pc ls (tv_I a :: st) M x :=
  tv_store (ls' := ls.set i (tv_I a)) (st' := st) (fun o1 o2 => ⟨tv_oks_set o1 (tv_h1 o2), tv_t1 o2⟩) (fun p e R s m args below meth c Z k j Ls H locs o1 o2 C hl kk => lv_istore_n C.1 C.2.1 hd hi (tv_as_has hl) hn rfl (fun Ls' h => kk Ls' (tv_lr_set (v := tv_I a) hn hk h))) hs
theorem ts_istore {i : Nat} {a : Int} (hn : i < ls.length) (hk : tv_sok ls i = true) (hd : decode y.2.1 pc = .ok (.istore i, 2)) (hs : tv_sim l E d y (pc + 2) (ls.set i (tv_I a)) st M x) : tv_sim l E d y pc ls (tv_I a :: st) M x :=
  tv_store (ls' := ls.set i (tv_I a)) (st' := st) (fun o1 o2 => ⟨tv_oks_set o1 (tv_h1 o2), tv_t1 o2⟩) (fun p e R s m args below meth c Z k j Ls H locs o1 o2 C hl kk => lv_istore C.1 C.2.1 hd (tv_as_has hl) hn rfl (fun Ls' h => kk Ls' (tv_lr_set (v := tv_I a) hn hk h))) hs
theorem ts_astore_n {k : Fin 4} {i : Nat} {a : Nat} (hi : (k : Nat) = i) (hn : i < ls.length) (hk : tv_sok ls i = true) (hd : decode y.2.1 pc = .ok (.astore_n k, 1)) (hs : tv_sim l E d y (pc + 1) (ls.set i (tv_R (a + 1))) st M x) : tv_sim l E d y pc ls (tv_R (a + 1) :: st) M x :=
  tv_store (ls' := ls.set i (tv_R (a + 1))) (st' := st) (fun o1 o2 => ⟨tv_oks_set o1 (trivial), tv_t1 o2⟩) (fun p e R s m args below meth c Z k j Ls H locs o1 o2 C hl kk => lv_astore_n C.1 C.2.1 hd hi (tv_as_has hl) hn rfl (fun Ls' h => kk Ls' (tv_lr_set (v := tv_R (a + 1)) hn hk h))) hs
theorem ts_astore {i : Nat} {a : Nat} (hn : i < ls.length) (hk : tv_sok ls i = true) (hd : decode y.2.1 pc = .ok (.astore i, 2)) (hs : tv_sim l E d y (pc + 2) (ls.set i (tv_R (a + 1))) st M x) : tv_sim l E d y pc ls (tv_R (a + 1) :: st) M x :=
  tv_store (ls' := ls.set i (tv_R (a + 1))) (st' := st) (fun o1 o2 => ⟨tv_oks_set o1 (trivial), tv_t1 o2⟩) (fun p e R s m args below meth c Z k j Ls H locs o1 o2 C hl kk => lv_astore C.1 C.2.1 hd (tv_as_has hl) hn rfl (fun Ls' h => kk Ls' (tv_lr_set (v := tv_R (a + 1)) hn hk h))) hs
theorem ts_lstore {i : Nat} {a : Int} (hn : i + 1 < ls.length) (hk : tv_sok ls i = true) (hd : decode y.2.1 pc = .ok (.lstore i, 2)) (hs : tv_sim l E d y (pc + 2) ((ls.set i (tv_J a)).set (i + 1) tv_U) st M x) : tv_sim l E d y pc ls (tv_J a :: st) M x :=
  tv_store (ls' := (ls.set i (tv_J a)).set (i + 1) tv_U) (st' := st) (fun o1 o2 => ⟨tv_oks_set (tv_oks_set o1 (tv_h1 o2)) trivial, tv_t1 o2⟩) (fun p e R s m args below meth c Z k j Ls H locs o1 o2 C hl kk => lv_lstore C.1 C.2.1 hd (tv_as_has hl) hn rfl (fun Ls' h => kk Ls' (tv_lr_set2 hn hk h))) hs
theorem ts_iinc {i : Nat} {a n : Int} (hg : ls[i]? = some (tv_I a)) (hk : tv_sok ls i = true) (hd : decode y.2.1 pc = .ok (.iinc i n, 3)) (hs : tv_sim l E d y (pc + 3) (ls.set i (tv_I (tv_w (a + n)))) st M x) : tv_sim l E d y pc ls st M x := by
  have hn : i < ls.length := (List.getElem?_eq_some_iff.mp hg).1
  refine tv_store (ls' := ls.set i (tv_I (tv_w (a + n)))) (st' := st) (fun o1 o2 => ⟨tv_oks_set o1 (tv_w_in _), o2⟩) (fun p e R s m args below meth c Z k j Ls H locs o1 o2 C hl kk => ?_) hs
  obtain ⟨q, hq⟩ := List.mem_iff_getElem?.mp (tv_as_mem (E := E) hg (by intro q; cases q))
  exact lv_iinc C.1 C.2.1 hd (tv_as_has hl) hq (tv_add a n) hn rfl (fun Ls' h => kk Ls' (tv_lr_set (v := tv_I (tv_w (a + n))) hn hk h))
theorem ts_ite {b : Prop} [Decidable b] {x1 x2 : Option (Int × tv_M)} (h1 : b → tv_sim l E d y pc ls st M x1) (h2 : ¬ b → tv_sim l E d y pc ls st M x2) : tv_sim l E d y pc ls st M (if b then x1 else x2) := by
  by_cases hb : b
  · rw [if_pos hb]; exact h1 hb
  · rw [if_neg hb]; exact h2 hb
theorem ts_tabIn {a dflt lo hi off : Int} {offs : Array Int} {n i tgt : Nat} (ha : a = lo + i) (hh : lo + i ≤ hi) (ho : offs[i]? = some off) (ht : (pc : Int) + off = (tgt : Int)) (hd : decode y.2.1 pc = .ok (.tableswitch dflt lo hi offs, n)) (hs : tv_sim l E d y tgt ls st M x) : tv_sim l E d y pc ls (tv_I a :: st) M x :=
  tv_plain (st' := st) (fun o1 o2 => tv_t1 o2) (fun p e R s m args below meth c Z k j Ls H locs o1 o2 C hl kk => by
    have e : (Int32.ofInt a).toInt = a := by rw [tv_toInt, tv_w_id (tv_h1 o2)]
    refine lv_tableIn (off := off) C.1 C.2.1 hd (by rw [e]; omega) (by rw [e]; omega) ?_ ht kk
    rw [e, show (a - lo).toNat = i by omega]; exact ho) hs
theorem ts_tabOut {a dflt lo hi : Int} {offs : Array Int} {n tgt : Nat} (ha : a < lo ∨ hi < a) (ht : (pc : Int) + dflt = (tgt : Int)) (hd : decode y.2.1 pc = .ok (.tableswitch dflt lo hi offs, n)) (hs : tv_sim l E d y tgt ls st M x) : tv_sim l E d y pc ls (tv_I a :: st) M x :=
  tv_plain (st' := st) (fun o1 o2 => tv_t1 o2) (fun p e R s m args below meth c Z k j Ls H locs o1 o2 C hl kk => by
    have e : (Int32.ofInt a).toInt = a := by rw [tv_toInt, tv_w_id (tv_h1 o2)]
    exact lv_tableOut C.1 C.2.1 hd (by rw [e]; exact ha) ht kk) hs
theorem ts_look {a dflt off : Int} {ps : Array (Int × Int)} {n tgt : Nat} (hp : (ps.toList.zip (ps.toList.drop 1)).all (fun (a, next) => a.1 < next.1) = true) (ho : Op.lookupswitch.offset ps.toList dflt a = off) (ht : (pc : Int) + off = (tgt : Int)) (hd : decode y.2.1 pc = .ok (.lookupswitch dflt ps, n)) (hs : tv_sim l E d y tgt ls st M x) : tv_sim l E d y pc ls (tv_I a :: st) M x :=
  tv_plain (st' := st) (fun o1 o2 => tv_t1 o2) (fun p e R s m args below meth c Z k j Ls H locs o1 o2 C hl kk => by
    have e : (Int32.ofInt a).toInt = a := by rw [tv_toInt, tv_w_id (tv_h1 o2)]
    exact lv_lookup C.1 C.2.1 hd hp (by rw [e]; exact ho) ht kk) hs
theorem ts_iret {a : Int} (hr : y.2.2.2 = some .int) (hd : decode y.2.1 pc = .ok (.ireturn, 1)) : tv_sim l E d y pc ls (tv_I a :: []) M (some (a, M)) := by
  intro r M' hx o1 o2 o3
  cases hx
  refine ⟨o3, by rw [hr]; exact tv_h1 o2, Nat.le_refl _, Nat.le_refl _, ?_⟩
  intro p e R s m args below meth c Z k j C hc hj hret Ls H locs hl hw hS
  have h := hret pc Ls H locs hw hS (by rw [hr]; exact hd)
  rw [hr, Nat.sub_self, Nat.sub_self] at h
  exact h
theorem ts_zret {a : Int} (hr : y.2.2.2 = some .boolean) (hd : decode y.2.1 pc = .ok (.ireturn, 1)) : tv_sim l E d y pc ls (tv_I a :: []) M (if a = 0 ∨ a = 1 then some (a, M) else none) := by
  intro r M' hx o1 o2 o3
  by_cases ha : a = 0 ∨ a = 1
  · rw [if_pos ha] at hx
    cases hx
    refine ⟨o3, by rw [hr]; exact ha, Nat.le_refl _, Nat.le_refl _, ?_⟩
    intro p e R s m args below meth c Z k j C hc hj hret Ls H locs hl hw hS
    have h := hret pc Ls H locs hw hS (by rw [hr]; exact hd)
    rw [hr, Nat.sub_self, Nat.sub_self] at h
    exact h
  · rw [if_neg ha] at hx; cases hx
theorem ts_lret {a : Int} (hr : y.2.2.2 = some .long) (hd : decode y.2.1 pc = .ok (.lreturn, 1)) : tv_sim l E d y pc ls (tv_J a :: []) M (some (a, M)) := by
  intro r M' hx o1 o2 o3
  cases hx
  refine ⟨o3, by rw [hr]; exact tv_h1 o2, Nat.le_refl _, Nat.le_refl _, ?_⟩
  intro p e R s m args below meth c Z k j C hc hj hret Ls H locs hl hw hS
  have h := hret pc Ls H locs hw hS (by rw [hr]; exact hd)
  rw [hr, Nat.sub_self, Nat.sub_self] at h
  exact h
theorem ts_vret (hr : y.2.2.2 = none) (hd : decode y.2.1 pc = .ok (.return_, 1)) : tv_sim l E d y pc ls [] M (some (0, M)) := by
  intro r M' hx o1 o2 o3
  cases hx
  refine ⟨o3, by rw [hr]; trivial, Nat.le_refl _, Nat.le_refl _, ?_⟩
  intro p e R s m args below meth c Z k j C hc hj hret Ls H locs hl hw hS
  have h := hret pc Ls H locs hw hS (by rw [hr]; exact hd)
  rw [hr, Nat.sub_self, Nat.sub_self] at h
  exact h
end TS
