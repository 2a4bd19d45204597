section TD
/-- the data alone, beside fixed kinds of cells and fixed references -/
abbrev td_D : Type := Nat → Nat → Int
abbrev td_G : Type := List (Nat × Nat) × (Nat → Nat → Option Nat)
def td_m (G : td_G) (D : td_D) : tv_M := (G.1, fun r k => match G.2 r k with
  | some q => (q : Int)
  | none => D r k)
def td_lift (G : td_G) (x : Option (Int × td_D)) : Option (Int × tv_M) := match x with
  | some q => some (q.1, td_m G q.2)
  | none => none
abbrev td_sim (l : Launch) (E : tv_E) (d : Nat) (y : tv_Y) (G : td_G) (pc : Nat) (ls st : List tv_V) (D : td_D) (x : Option (Int × td_D)) : Prop := tv_sim l E d y pc ls st (td_m G D) (td_lift G x)
abbrev td_msim (l : Launch) (E : tv_E) (d : Nat) (y : tv_Y) (G : td_G) (as : List tv_V) (D : td_D) (x : Option (Int × td_D)) : Prop := tv_msim l E d y as (td_m G D) (td_lift G x)
def td_at (G : td_G) (r : Nat) : Nat × Nat := match r with
  | 0 => (99, 0)
  | k + 1 => (G.1[k]?).getD (99, 0)
def td_r (G : td_G) (r k : Nat) : Nat := (G.2 r k).getD 0
def td_upd (D : td_D) (r j : Nat) (v : Int) : td_D := fun r' j' => if r' = r ∧ j' = j then v else D r' j'
def td_cpy (D : td_D) (r0 sp r1 dp n : Nat) : td_D := fun r j => if r = r1 ∧ dp ≤ j ∧ j < dp + n then D r0 (sp + (j - dp)) else D r j
def td_b (F : Option (Int × td_D)) (K : Int → td_D → Option (Int × td_D)) : Option (Int × td_D) := match F with
  | some (r, D) => K r D
  | none => none
variable {l : Launch} {E : tv_E} {d : Nat} {y : tv_Y} {G : td_G} {pc : Nat} {ls st : List tv_V} {D : td_D} {x : Option (Int × td_D)}
theorem td_at_eq {r : Nat} : tv_at (td_m G D) r = td_at G r := by cases r <;> rfl
theorem td_upd_eq {r j : Nat} {v : Int} (h : G.2 r j = none) : tv_upd (td_m G D) r j v = td_m G (td_upd D r j v) := by
  unfold tv_upd td_m td_upd
  congr 1
  funext r' j'
  by_cases hq : r' = r ∧ j' = j
  · obtain ⟨rfl, rfl⟩ := hq
    simp [h]
  · simp only [hq, if_false]
theorem td_cpy_eq {r0 sp r1 dp n : Nat} (h0 : ∀ j, G.2 r0 j = none) (h1 : ∀ j, G.2 r1 j = none) : tv_cpy (td_m G D) r0 sp r1 dp n = td_m G (td_cpy D r0 sp r1 dp n) := by
  unfold tv_cpy td_m td_cpy
  congr 1
  funext r j
  by_cases hq : r = r1 ∧ dp ≤ j ∧ j < dp + n
  · simp only [hq, h1, h0, if_true, and_self]
  · simp only [hq, if_false]
theorem td_lift_ite {b : Prop} [Decidable b] {x1 x2 : Option (Int × td_D)} : td_lift G (if b then x1 else x2) = if b then td_lift G x1 else td_lift G x2 := by
  split <;> rfl
theorem td_ite {b : Prop} [Decidable b] {x1 x2 : Option (Int × td_D)} (h1 : b → td_sim l E d y G pc ls st D x1) (h2 : ¬ b → td_sim l E d y G pc ls st D x2) : td_sim l E d y G pc ls st D (if b then x1 else x2) := by
  unfold td_sim; rw [td_lift_ite]; exact ts_ite h1 h2
theorem td_guard {b : Prop} [Decidable b] (h : b → td_sim l E d y G pc ls st D x) : td_sim l E d y G pc ls st D (if b then x else none) := td_ite h (fun _ => tv_none)
theorem td_icmp_eq {a b : Int} {f : Int} {tgt : Nat} {x1 x2 : Option (Int × td_D)} (ht : (pc : Int) + f = (tgt : Int)) (hd : decode y.2.1 pc = .ok (.if_icmp .eq f, 3)) (h1 : td_sim l E d y G tgt ls st D x1) (h2 : td_sim l E d y G (pc + 3) ls st D x2) : td_sim l E d y G pc ls (tv_I b :: tv_I a :: st) D (if a = b then x1 else x2) := by
  unfold td_sim; rw [td_lift_ite]; exact ts_icmp_eq ht hd h1 h2
theorem td_if_eq {a : Int} {f : Int} {tgt : Nat} {x1 x2 : Option (Int × td_D)} (ht : (pc : Int) + f = (tgt : Int)) (hd : decode y.2.1 pc = .ok (.ifCond .eq f, 3)) (h1 : td_sim l E d y G tgt ls st D x1) (h2 : td_sim l E d y G (pc + 3) ls st D x2) : td_sim l E d y G pc ls (tv_I a :: st) D (if a = 0 then x1 else x2) := by
  unfold td_sim; rw [td_lift_ite]; exact ts_if_eq ht hd h1 h2
theorem td_icmp_ne {a b : Int} {f : Int} {tgt : Nat} {x1 x2 : Option (Int × td_D)} (ht : (pc : Int) + f = (tgt : Int)) (hd : decode y.2.1 pc = .ok (.if_icmp .ne f, 3)) (h1 : td_sim l E d y G (pc + 3) ls st D x1) (h2 : td_sim l E d y G tgt ls st D x2) : td_sim l E d y G pc ls (tv_I b :: tv_I a :: st) D (if a = b then x1 else x2) := by
  unfold td_sim; rw [td_lift_ite]; exact ts_icmp_ne ht hd h1 h2
theorem td_if_ne {a : Int} {f : Int} {tgt : Nat} {x1 x2 : Option (Int × td_D)} (ht : (pc : Int) + f = (tgt : Int)) (hd : decode y.2.1 pc = .ok (.ifCond .ne f, 3)) (h1 : td_sim l E d y G (pc + 3) ls st D x1) (h2 : td_sim l E d y G tgt ls st D x2) : td_sim l E d y G pc ls (tv_I a :: st) D (if a = 0 then x1 else x2) := by
  unfold td_sim; rw [td_lift_ite]; exact ts_if_ne ht hd h1 h2
theorem td_icmp_lt {a b : Int} {f : Int} {tgt : Nat} {x1 x2 : Option (Int × td_D)} (ht : (pc : Int) + f = (tgt : Int)) (hd : decode y.2.1 pc = .ok (.if_icmp .lt f, 3)) (h1 : td_sim l E d y G tgt ls st D x1) (h2 : td_sim l E d y G (pc + 3) ls st D x2) : td_sim l E d y G pc ls (tv_I b :: tv_I a :: st) D (if a < b then x1 else x2) := by
  unfold td_sim; rw [td_lift_ite]; exact ts_icmp_lt ht hd h1 h2
theorem td_if_lt {a : Int} {f : Int} {tgt : Nat} {x1 x2 : Option (Int × td_D)} (ht : (pc : Int) + f = (tgt : Int)) (hd : decode y.2.1 pc = .ok (.ifCond .lt f, 3)) (h1 : td_sim l E d y G tgt ls st D x1) (h2 : td_sim l E d y G (pc + 3) ls st D x2) : td_sim l E d y G pc ls (tv_I a :: st) D (if a < 0 then x1 else x2) := by
  unfold td_sim; rw [td_lift_ite]; exact ts_if_lt ht hd h1 h2
theorem td_icmp_ge {a b : Int} {f : Int} {tgt : Nat} {x1 x2 : Option (Int × td_D)} (ht : (pc : Int) + f = (tgt : Int)) (hd : decode y.2.1 pc = .ok (.if_icmp .ge f, 3)) (h1 : td_sim l E d y G tgt ls st D x1) (h2 : td_sim l E d y G (pc + 3) ls st D x2) : td_sim l E d y G pc ls (tv_I b :: tv_I a :: st) D (if b ≤ a then x1 else x2) := by
  unfold td_sim; rw [td_lift_ite]; exact ts_icmp_ge ht hd h1 h2
theorem td_if_ge {a : Int} {f : Int} {tgt : Nat} {x1 x2 : Option (Int × td_D)} (ht : (pc : Int) + f = (tgt : Int)) (hd : decode y.2.1 pc = .ok (.ifCond .ge f, 3)) (h1 : td_sim l E d y G tgt ls st D x1) (h2 : td_sim l E d y G (pc + 3) ls st D x2) : td_sim l E d y G pc ls (tv_I a :: st) D (if 0 ≤ a then x1 else x2) := by
  unfold td_sim; rw [td_lift_ite]; exact ts_if_ge ht hd h1 h2
theorem td_icmp_gt {a b : Int} {f : Int} {tgt : Nat} {x1 x2 : Option (Int × td_D)} (ht : (pc : Int) + f = (tgt : Int)) (hd : decode y.2.1 pc = .ok (.if_icmp .gt f, 3)) (h1 : td_sim l E d y G tgt ls st D x1) (h2 : td_sim l E d y G (pc + 3) ls st D x2) : td_sim l E d y G pc ls (tv_I b :: tv_I a :: st) D (if b < a then x1 else x2) := by
  unfold td_sim; rw [td_lift_ite]; exact ts_icmp_gt ht hd h1 h2
theorem td_if_gt {a : Int} {f : Int} {tgt : Nat} {x1 x2 : Option (Int × td_D)} (ht : (pc : Int) + f = (tgt : Int)) (hd : decode y.2.1 pc = .ok (.ifCond .gt f, 3)) (h1 : td_sim l E d y G tgt ls st D x1) (h2 : td_sim l E d y G (pc + 3) ls st D x2) : td_sim l E d y G pc ls (tv_I a :: st) D (if 0 < a then x1 else x2) := by
  unfold td_sim; rw [td_lift_ite]; exact ts_if_gt ht hd h1 h2
theorem td_icmp_le {a b : Int} {f : Int} {tgt : Nat} {x1 x2 : Option (Int × td_D)} (ht : (pc : Int) + f = (tgt : Int)) (hd : decode y.2.1 pc = .ok (.if_icmp .le f, 3)) (h1 : td_sim l E d y G tgt ls st D x1) (h2 : td_sim l E d y G (pc + 3) ls st D x2) : td_sim l E d y G pc ls (tv_I b :: tv_I a :: st) D (if a ≤ b then x1 else x2) := by
  unfold td_sim; rw [td_lift_ite]; exact ts_icmp_le ht hd h1 h2
theorem td_if_le {a : Int} {f : Int} {tgt : Nat} {x1 x2 : Option (Int × td_D)} (ht : (pc : Int) + f = (tgt : Int)) (hd : decode y.2.1 pc = .ok (.ifCond .le f, 3)) (h1 : td_sim l E d y G tgt ls st D x1) (h2 : td_sim l E d y G (pc + 3) ls st D x2) : td_sim l E d y G pc ls (tv_I a :: st) D (if a ≤ 0 then x1 else x2) := by
  unfold td_sim; rw [td_lift_ite]; exact ts_if_le ht hd h1 h2
theorem td_idiv {a b : Int} (hd : decode y.2.1 pc = .ok (.idiv, 1)) (hs : td_sim l E d y G (pc + 1) ls (tv_I (tv_div a b) :: st) D x) : td_sim l E d y G pc ls (tv_I b :: tv_I a :: st) D (if b = 0 then none else x) := by
  unfold td_sim; rw [td_lift_ite]; exact ts_idiv hd hs
theorem td_idivK {a b : Int} (hb : ¬ b = 0) (hd : decode y.2.1 pc = .ok (.idiv, 1)) (hs : td_sim l E d y G (pc + 1) ls (tv_I (tv_div a b) :: st) D x) : td_sim l E d y G pc ls (tv_I b :: tv_I a :: st) D x := by
  have h := ts_idiv hd hs
  rwa [if_neg hb] at h
theorem td_irem {a b : Int} (hd : decode y.2.1 pc = .ok (.irem, 1)) (hs : td_sim l E d y G (pc + 1) ls (tv_I (tv_rem a b) :: st) D x) : td_sim l E d y G pc ls (tv_I b :: tv_I a :: st) D (if b = 0 then none else x) := by
  unfold td_sim; rw [td_lift_ite]; exact ts_irem hd hs
theorem td_iremK {a b : Int} (hb : ¬ b = 0) (hd : decode y.2.1 pc = .ok (.irem, 1)) (hs : td_sim l E d y G (pc + 1) ls (tv_I (tv_rem a b) :: st) D x) : td_sim l E d y G pc ls (tv_I b :: tv_I a :: st) D x := by
  have h := ts_irem hd hs
  rwa [if_neg hb] at h
theorem td_getI {r c k N idx : Nat} (hf : tv_fl y.1.cls idx c k N) (ht : tv_isR (tv_ty c k) = false) (hat : td_at G r = (c, N)) (hn : G.2 r k = none) (hd : decode y.2.1 pc = .ok (.getfield idx, 3)) (hs : td_sim l E d y G (pc + 3) ls (tv_I (D r k) :: st) D x) : td_sim l E d y G pc ls (tv_R r :: st) D x := by
  have e : (td_m G D).2 r k = D r k := by simp [td_m, hn]
  have h := ts_getI (M := td_m G D) (r := r) hf ht hd (x := td_lift G x) (by rw [e]; exact hs)
  rwa [if_pos (by rw [td_at_eq]; exact hat)] at h
theorem td_getR {r c k N idx q : Nat} (hf : tv_fl y.1.cls idx c k N) (ht : tv_isR (tv_ty c k) = true) (hat : td_at G r = (c, N)) (hn : G.2 r k = some q) (hd : decode y.2.1 pc = .ok (.getfield idx, 3)) (hs : td_sim l E d y G (pc + 3) ls (tv_R q :: st) D x) : td_sim l E d y G pc ls (tv_R r :: st) D x := by
  have e : (td_m G D).2 r k = (q : Int) := by simp [td_m, hn]
  have h := ts_getR (M := td_m G D) (r := r) hf ht hd (x := td_lift G x) (by rw [e, Int.toNat_natCast]; exact hs)
  rwa [if_pos (by rw [td_at_eq]; exact hat)] at h
/-- a reference that may change -/
theorem td_getV {r c k N idx : Nat} (hf : tv_fl y.1.cls idx c k N) (ht : tv_isR (tv_ty c k) = true) (hat : td_at G r = (c, N)) (hn : G.2 r k = none) (hd : decode y.2.1 pc = .ok (.getfield idx, 3)) (hs : td_sim l E d y G (pc + 3) ls (tv_R (D r k).toNat :: st) D x) : td_sim l E d y G pc ls (tv_R r :: st) D x := by
  have e : (td_m G D).2 r k = D r k := by simp [td_m, hn]
  have h := ts_getR (M := td_m G D) (r := r) hf ht hd (x := td_lift G x) (by rw [e]; exact hs)
  rwa [if_pos (by rw [td_at_eq]; exact hat)] at h
theorem td_putI {r c k N idx : Nat} {a : Int} {b : Bool} (hf : tv_flF y.1.cls idx c k N b) (hb : b = true → y.1.name = "<init>") (ht : tv_ty c k = .int) (hat : td_at G r = (c, N)) (hn : G.2 r k = none) (hd : decode y.2.1 pc = .ok (.putfield idx, 3)) (hs : td_sim l E d y G (pc + 3) ls st (td_upd D r k a) x) : td_sim l E d y G pc ls (tv_I a :: tv_R r :: st) D x := by
  have h := ts_putI (M := td_m G D) (r := r) hf hb ht hd (x := td_lift G x) (by rw [td_upd_eq hn]; exact hs)
  rwa [if_pos (by rw [td_at_eq]; exact hat)] at h
theorem td_putZ {r c k N idx : Nat} {a : Int} {b : Bool} (hf : tv_flF y.1.cls idx c k N b) (hb : b = true → y.1.name = "<init>") (ht : tv_ty c k = .boolean) (hat : td_at G r = (c, N)) (hn : G.2 r k = none) (ha : a = 0 ∨ a = 1) (hd : decode y.2.1 pc = .ok (.putfield idx, 3)) (hs : td_sim l E d y G (pc + 3) ls st (td_upd D r k a) x) : td_sim l E d y G pc ls (tv_I a :: tv_R r :: st) D x := by
  have h := ts_putZ (M := td_m G D) (r := r) hf hb ht hd (x := td_lift G x) (by rw [td_upd_eq hn]; exact hs)
  rwa [if_pos ⟨by rw [td_at_eq]; exact hat, ha⟩] at h
theorem td_putV {r c k N idx q : Nat} {b : Bool} {t : FieldType} (hf : tv_flF y.1.cls idx c k N b) (hb : b = true → y.1.name = "<init>") (ht : tv_ty c k = t) (hR : tv_isR t = true) (hq : ∀ z : Nat, narrow t (.ref z) = .ref z ∧ fits t (.ref z) = true) (hat : td_at G r = (c, N)) (hn : G.2 r k = none) (hz : 0 < q ∧ q ≤ 1000) (hd : decode y.2.1 pc = .ok (.putfield idx, 3)) (hs : td_sim l E d y G (pc + 3) ls st (td_upd D r k (q : Int)) x) : td_sim l E d y G pc ls (tv_R q :: tv_R r :: st) D x := by
  obtain ⟨q, rfl⟩ : ∃ p, q = p + 1 := ⟨q - 1, by omega⟩
  have h := ts_putR (M := td_m G D) (r := r) (q := q) hf hb ht hR hq hd (x := td_lift G x) (by rw [td_upd_eq hn]; exact hs)
  rwa [if_pos ⟨by rw [td_at_eq]; exact hat, by omega⟩] at h
/-- an element: its kind is known, its index within -/
theorem td_el {c r n : Nat} {j : Int} (hat : td_at G r = (c, n)) (hj : 0 ≤ j ∧ j < (n : Int)) : tv_el (td_m G D) c r j := by
  unfold tv_el; rw [td_at_eq, hat]; exact ⟨rfl, hj.1, hj.2⟩
theorem td_iald {r n : Nat} {j : Int} (hat : td_at G r = (20, n)) (hn : G.2 r j.toNat = none) (hd : decode y.2.1 pc = .ok (.iaload, 1)) (hs : td_sim l E d y G (pc + 1) ls (tv_I (D r j.toNat) :: st) D x) : td_sim l E d y G pc ls (tv_I j :: tv_R r :: st) D (if 0 ≤ j ∧ j < (n : Int) then x else none) := by
  refine td_guard fun hj => ?_
  have e : (td_m G D).2 r j.toNat = D r j.toNat := by simp [td_m, hn]
  have h := ts_iald (M := td_m G D) (r := r) (j := j) hd (x := td_lift G x) (by rw [e]; exact hs)
  rwa [if_pos (td_el hat hj)] at h
theorem td_ialdK {r n : Nat} {j : Int} (hat : td_at G r = (20, n)) (hn : G.2 r j.toNat = none) (hj : 0 ≤ j ∧ j < (n : Int)) (hd : decode y.2.1 pc = .ok (.iaload, 1)) (hs : td_sim l E d y G (pc + 1) ls (tv_I (D r j.toNat) :: st) D x) : td_sim l E d y G pc ls (tv_I j :: tv_R r :: st) D x := by
  have h := td_iald hat hn hd hs
  rwa [if_pos hj] at h
theorem td_bald {r n : Nat} {j : Int} (hat : td_at G r = (21, n)) (hn : G.2 r j.toNat = none) (hd : decode y.2.1 pc = .ok (.baload, 1)) (hs : td_sim l E d y G (pc + 1) ls (tv_I (D r j.toNat) :: st) D x) : td_sim l E d y G pc ls (tv_I j :: tv_R r :: st) D (if 0 ≤ j ∧ j < (n : Int) then x else none) := by
  refine td_guard fun hj => ?_
  have e : (td_m G D).2 r j.toNat = D r j.toNat := by simp [td_m, hn]
  have h := ts_bald (M := td_m G D) (r := r) (j := j) hd (x := td_lift G x) (by rw [e]; exact hs)
  rwa [if_pos (td_el hat hj)] at h
theorem td_baldK {r n : Nat} {j : Int} (hat : td_at G r = (21, n)) (hn : G.2 r j.toNat = none) (hj : 0 ≤ j ∧ j < (n : Int)) (hd : decode y.2.1 pc = .ok (.baload, 1)) (hs : td_sim l E d y G (pc + 1) ls (tv_I (D r j.toNat) :: st) D x) : td_sim l E d y G pc ls (tv_I j :: tv_R r :: st) D x := by
  have h := td_bald hat hn hd hs
  rwa [if_pos hj] at h
theorem td_sald {r n : Nat} {j : Int} (hat : td_at G r = (22, n)) (hn : G.2 r j.toNat = none) (hd : decode y.2.1 pc = .ok (.saload, 1)) (hs : td_sim l E d y G (pc + 1) ls (tv_I (D r j.toNat) :: st) D x) : td_sim l E d y G pc ls (tv_I j :: tv_R r :: st) D (if 0 ≤ j ∧ j < (n : Int) then x else none) := by
  refine td_guard fun hj => ?_
  have e : (td_m G D).2 r j.toNat = D r j.toNat := by simp [td_m, hn]
  have h := ts_sald (M := td_m G D) (r := r) (j := j) hd (x := td_lift G x) (by rw [e]; exact hs)
  rwa [if_pos (td_el hat hj)] at h
theorem td_saldK {r n : Nat} {j : Int} (hat : td_at G r = (22, n)) (hn : G.2 r j.toNat = none) (hj : 0 ≤ j ∧ j < (n : Int)) (hd : decode y.2.1 pc = .ok (.saload, 1)) (hs : td_sim l E d y G (pc + 1) ls (tv_I (D r j.toNat) :: st) D x) : td_sim l E d y G pc ls (tv_I j :: tv_R r :: st) D x := by
  have h := td_sald hat hn hd hs
  rwa [if_pos hj] at h
theorem td_zald {r n : Nat} {j : Int} (hat : td_at G r = (23, n)) (hn : G.2 r j.toNat = none) (hd : decode y.2.1 pc = .ok (.baload, 1)) (hs : td_sim l E d y G (pc + 1) ls (tv_I (D r j.toNat) :: st) D x) : td_sim l E d y G pc ls (tv_I j :: tv_R r :: st) D (if 0 ≤ j ∧ j < (n : Int) then x else none) := by
  refine td_guard fun hj => ?_
  have e : (td_m G D).2 r j.toNat = D r j.toNat := by simp [td_m, hn]
  have h := ts_zald (M := td_m G D) (r := r) (j := j) hd (x := td_lift G x) (by rw [e]; exact hs)
  rwa [if_pos (td_el hat hj)] at h
theorem td_zaldK {r n : Nat} {j : Int} (hat : td_at G r = (23, n)) (hn : G.2 r j.toNat = none) (hj : 0 ≤ j ∧ j < (n : Int)) (hd : decode y.2.1 pc = .ok (.baload, 1)) (hs : td_sim l E d y G (pc + 1) ls (tv_I (D r j.toNat) :: st) D x) : td_sim l E d y G pc ls (tv_I j :: tv_R r :: st) D x := by
  have h := td_zald hat hn hd hs
  rwa [if_pos hj] at h
theorem td_lald {r n : Nat} {j : Int} (hat : td_at G r = (24, n)) (hn : G.2 r j.toNat = none) (hd : decode y.2.1 pc = .ok (.laload, 1)) (hs : td_sim l E d y G (pc + 1) ls (tv_J (D r j.toNat) :: st) D x) : td_sim l E d y G pc ls (tv_I j :: tv_R r :: st) D (if 0 ≤ j ∧ j < (n : Int) then x else none) := by
  refine td_guard fun hj => ?_
  have e : (td_m G D).2 r j.toNat = D r j.toNat := by simp [td_m, hn]
  have h := ts_lald (M := td_m G D) (r := r) (j := j) hd (x := td_lift G x) (by rw [e]; exact hs)
  rwa [if_pos (td_el hat hj)] at h
theorem td_laldK {r n : Nat} {j : Int} (hat : td_at G r = (24, n)) (hn : G.2 r j.toNat = none) (hj : 0 ≤ j ∧ j < (n : Int)) (hd : decode y.2.1 pc = .ok (.laload, 1)) (hs : td_sim l E d y G (pc + 1) ls (tv_J (D r j.toNat) :: st) D x) : td_sim l E d y G pc ls (tv_I j :: tv_R r :: st) D x := by
  have h := td_lald hat hn hd hs
  rwa [if_pos hj] at h
theorem td_aald {r n : Nat} {j : Int} (hat : td_at G r = (25, n)) (hn : ∀ k, k < n → (G.2 r k).isSome = true) (hd : decode y.2.1 pc = .ok (.aaload, 1)) (hs : td_sim l E d y G (pc + 1) ls (tv_R (td_r G r j.toNat) :: st) D x) : td_sim l E d y G pc ls (tv_I j :: tv_R r :: st) D (if 0 ≤ j ∧ j < (n : Int) then x else none) := by
  refine td_guard fun hj => ?_
  have h1 := hn j.toNat (by omega)
  obtain ⟨q, hq⟩ := Option.isSome_iff_exists.mp h1
  have e : ((td_m G D).2 r j.toNat).toNat = td_r G r j.toNat := by simp [td_m, td_r, hq]
  have h := ts_aald (M := td_m G D) (r := r) (j := j) hd (x := td_lift G x) (by rw [e]; exact hs)
  rwa [if_pos (td_el hat hj)] at h
theorem td_sald0 {q n : Nat} {f : Nat → Int} {j : Int} (hq : q < 3) (hsa : tv_sa E q = (n, f)) (hd : decode y.2.1 pc = .ok (.iaload, 1)) (ho : ∀ k, tv_in (f k)) (hs : td_sim l E d y G (pc + 1) ls (tv_I (f j.toNat) :: st) D x) : td_sim l E d y G pc ls (tv_I j :: tv_S q :: st) D (if 0 ≤ j ∧ j < (n : Int) then x else none) := by
  have h := ts_sald0 (M := td_m G D) (q := q) (j := j) hq hd (x := td_lift G x) (by rw [hsa]; exact ho _) (by rw [hsa]; exact hs)
  unfold td_sim; rw [td_lift_ite]
  rw [hsa] at h
  exact h
theorem td_iast {r n : Nat} {j a : Int} (hat : td_at G r = (20, n)) (hn : G.2 r j.toNat = none) (hd : decode y.2.1 pc = .ok (.iastore, 1)) (hs : td_sim l E d y G (pc + 1) ls st (td_upd D r j.toNat (a)) x) : td_sim l E d y G pc ls (tv_I a :: tv_I j :: tv_R r :: st) D (if 0 ≤ j ∧ j < (n : Int) then x else none) := by
  refine td_guard fun hj => ?_
  have h := ts_iast (M := td_m G D) (r := r) (j := j) (a := a) hd (x := td_lift G x) (by rw [td_upd_eq hn]; exact hs)
  rwa [if_pos (td_el hat hj)] at h
theorem td_iastK {r n : Nat} {j a : Int} (hat : td_at G r = (20, n)) (hn : G.2 r j.toNat = none) (hj : 0 ≤ j ∧ j < (n : Int)) (hd : decode y.2.1 pc = .ok (.iastore, 1)) (hs : td_sim l E d y G (pc + 1) ls st (td_upd D r j.toNat (a)) x) : td_sim l E d y G pc ls (tv_I a :: tv_I j :: tv_R r :: st) D x := by
  have h := td_iast hat hn hd hs
  rwa [if_pos hj] at h
theorem td_bast {r n : Nat} {j a : Int} (hat : td_at G r = (21, n)) (hn : G.2 r j.toNat = none) (hd : decode y.2.1 pc = .ok (.bastore, 1)) (hs : td_sim l E d y G (pc + 1) ls st (td_upd D r j.toNat (tv_i2b a)) x) : td_sim l E d y G pc ls (tv_I a :: tv_I j :: tv_R r :: st) D (if 0 ≤ j ∧ j < (n : Int) then x else none) := by
  refine td_guard fun hj => ?_
  have h := ts_bast (M := td_m G D) (r := r) (j := j) (a := a) hd (x := td_lift G x) (by rw [td_upd_eq hn]; exact hs)
  rwa [if_pos (td_el hat hj)] at h
theorem td_bastK {r n : Nat} {j a : Int} (hat : td_at G r = (21, n)) (hn : G.2 r j.toNat = none) (hj : 0 ≤ j ∧ j < (n : Int)) (hd : decode y.2.1 pc = .ok (.bastore, 1)) (hs : td_sim l E d y G (pc + 1) ls st (td_upd D r j.toNat (tv_i2b a)) x) : td_sim l E d y G pc ls (tv_I a :: tv_I j :: tv_R r :: st) D x := by
  have h := td_bast hat hn hd hs
  rwa [if_pos hj] at h
theorem td_sast {r n : Nat} {j a : Int} (hat : td_at G r = (22, n)) (hn : G.2 r j.toNat = none) (hd : decode y.2.1 pc = .ok (.sastore, 1)) (hs : td_sim l E d y G (pc + 1) ls st (td_upd D r j.toNat (tv_i2s a)) x) : td_sim l E d y G pc ls (tv_I a :: tv_I j :: tv_R r :: st) D (if 0 ≤ j ∧ j < (n : Int) then x else none) := by
  refine td_guard fun hj => ?_
  have h := ts_sast (M := td_m G D) (r := r) (j := j) (a := a) hd (x := td_lift G x) (by rw [td_upd_eq hn]; exact hs)
  rwa [if_pos (td_el hat hj)] at h
theorem td_sastK {r n : Nat} {j a : Int} (hat : td_at G r = (22, n)) (hn : G.2 r j.toNat = none) (hj : 0 ≤ j ∧ j < (n : Int)) (hd : decode y.2.1 pc = .ok (.sastore, 1)) (hs : td_sim l E d y G (pc + 1) ls st (td_upd D r j.toNat (tv_i2s a)) x) : td_sim l E d y G pc ls (tv_I a :: tv_I j :: tv_R r :: st) D x := by
  have h := td_sast hat hn hd hs
  rwa [if_pos hj] at h
theorem td_zast {r n : Nat} {j a : Int} (hat : td_at G r = (23, n)) (hn : G.2 r j.toNat = none) (hd : decode y.2.1 pc = .ok (.bastore, 1)) (hs : td_sim l E d y G (pc + 1) ls st (td_upd D r j.toNat (a)) x) : td_sim l E d y G pc ls (tv_I a :: tv_I j :: tv_R r :: st) D (if (0 ≤ j ∧ j < (n : Int)) ∧ (a = 0 ∨ a = 1) then x else none) := by
  refine td_guard fun hj => ?_
  have h := ts_zast (M := td_m G D) (r := r) (j := j) (a := a) hd (x := td_lift G x) (by rw [td_upd_eq hn]; exact hs)
  rwa [if_pos ⟨td_el hat hj.1, hj.2⟩] at h
theorem td_zastK {r n : Nat} {j a : Int} (hat : td_at G r = (23, n)) (hn : G.2 r j.toNat = none) (hj : (0 ≤ j ∧ j < (n : Int)) ∧ (a = 0 ∨ a = 1)) (hd : decode y.2.1 pc = .ok (.bastore, 1)) (hs : td_sim l E d y G (pc + 1) ls st (td_upd D r j.toNat (a)) x) : td_sim l E d y G pc ls (tv_I a :: tv_I j :: tv_R r :: st) D x := by
  have h := td_zast hat hn hd hs
  rwa [if_pos hj] at h
theorem td_last {r n : Nat} {j a : Int} (hat : td_at G r = (24, n)) (hn : G.2 r j.toNat = none) (hd : decode y.2.1 pc = .ok (.lastore, 1)) (hs : td_sim l E d y G (pc + 1) ls st (td_upd D r j.toNat (a)) x) : td_sim l E d y G pc ls (tv_J a :: tv_I j :: tv_R r :: st) D (if 0 ≤ j ∧ j < (n : Int) then x else none) := by
  refine td_guard fun hj => ?_
  have h := ts_last (M := td_m G D) (r := r) (j := j) (a := a) hd (x := td_lift G x) (by rw [td_upd_eq hn]; exact hs)
  rwa [if_pos (td_el hat hj)] at h
theorem td_lastK {r n : Nat} {j a : Int} (hat : td_at G r = (24, n)) (hn : G.2 r j.toNat = none) (hj : 0 ≤ j ∧ j < (n : Int)) (hd : decode y.2.1 pc = .ok (.lastore, 1)) (hs : td_sim l E d y G (pc + 1) ls st (td_upd D r j.toNat (a)) x) : td_sim l E d y G pc ls (tv_J a :: tv_I j :: tv_R r :: st) D x := by
  have h := td_last hat hn hd hs
  rwa [if_pos hj] at h
theorem td_cpyi {r0 r1 n0 n1 idx : Nat} {sp dp n : Int} (hal : ¬ tv_al E) (g7 : ls.length = y.2.2.1) (h0 : td_at G r0 = (20, n0)) (h1 : td_at G r1 = (20, n1)) (z0 : ∀ j, G.2 r0 j = none) (z1 : ∀ j, G.2 r1 j = none) (hc : Cond.methodLink y.1.cls idx arraycopyName ∈ tv_tb) (hst : (st.map fun v => (tv_v E v).category).sum ≤ 8) (hd : decode y.2.1 pc = .ok (.invokestatic idx, 3)) (hs : td_sim l E (d + 1) y G (pc + 3) ls st (td_cpy D r0 sp.toNat r1 dp.toNat n.toNat) x) : td_sim l E (d + 1) y G pc ls (tv_I n :: tv_I dp :: tv_R r1 :: tv_I sp :: tv_R r0 :: st) D (if 0 ≤ sp ∧ 0 ≤ dp ∧ 0 ≤ n ∧ sp + n ≤ (n0 : Int) ∧ dp + n ≤ (n1 : Int) then x else none) := by
  refine td_guard fun hj => ?_
  have h := ts_cpyi (M := td_m G D) (r0 := r0) (r1 := r1) (sp := sp) (dp := dp) (n := n) (x := td_lift G x) hal g7 hc hst hd (by rw [td_cpy_eq z0 z1]; exact hs)
  rwa [if_pos (by rw [td_at_eq, td_at_eq, h0, h1]; exact ⟨rfl, rfl, hj.1, hj.2.1, hj.2.2.1, hj.2.2.2.1, hj.2.2.2.2⟩)] at h
theorem td_cpyl {r0 r1 n0 n1 idx : Nat} {sp dp n : Int} (hal : ¬ tv_al E) (g7 : ls.length = y.2.2.1) (h0 : td_at G r0 = (24, n0)) (h1 : td_at G r1 = (24, n1)) (z0 : ∀ j, G.2 r0 j = none) (z1 : ∀ j, G.2 r1 j = none) (hc : Cond.methodLink y.1.cls idx arraycopyName ∈ tv_tb) (hst : (st.map fun v => (tv_v E v).category).sum ≤ 8) (hd : decode y.2.1 pc = .ok (.invokestatic idx, 3)) (hs : td_sim l E (d + 1) y G (pc + 3) ls st (td_cpy D r0 sp.toNat r1 dp.toNat n.toNat) x) : td_sim l E (d + 1) y G pc ls (tv_I n :: tv_I dp :: tv_R r1 :: tv_I sp :: tv_R r0 :: st) D (if 0 ≤ sp ∧ 0 ≤ dp ∧ 0 ≤ n ∧ sp + n ≤ (n0 : Int) ∧ dp + n ≤ (n1 : Int) then x else none) := by
  refine td_guard fun hj => ?_
  have h := ts_cpyl (M := td_m G D) (r0 := r0) (r1 := r1) (sp := sp) (dp := dp) (n := n) (x := td_lift G x) hal g7 hc hst hd (by rw [td_cpy_eq z0 z1]; exact hs)
  rwa [if_pos (by rw [td_at_eq, td_at_eq, h0, h1]; exact ⟨rfl, rfl, hj.1, hj.2.1, hj.2.2.1, hj.2.2.2.1, hj.2.2.2.2⟩)] at h
theorem td_iret {a : Int} (hr : y.2.2.2 = some .int) (hd : decode y.2.1 pc = .ok (.ireturn, 1)) : td_sim l E d y G pc ls (tv_I a :: []) D (some (a, D)) := ts_iret hr hd
theorem td_zret {a : Int} (hr : y.2.2.2 = some .boolean) (hd : decode y.2.1 pc = .ok (.ireturn, 1)) : td_sim l E d y G pc ls (tv_I a :: []) D (if a = 0 ∨ a = 1 then some (a, D) else none) := by
  unfold td_sim; rw [td_lift_ite]; exact ts_zret hr hd
theorem td_zretK {a : Int} (ha : a = 0 ∨ a = 1) (hr : y.2.2.2 = some .boolean) (hd : decode y.2.1 pc = .ok (.ireturn, 1)) : td_sim l E d y G pc ls (tv_I a :: []) D (some (a, D)) := by
  have h := td_zret (l := l) (E := E) (d := d) (G := G) (ls := ls) (D := D) (a := a) hr hd
  rwa [if_pos ha] at h
theorem td_lret {a : Int} (hr : y.2.2.2 = some .long) (hd : decode y.2.1 pc = .ok (.lreturn, 1)) : td_sim l E d y G pc ls (tv_J a :: []) D (some (a, D)) := ts_lret hr hd
theorem td_vret (hr : y.2.2.2 = none) (hd : decode y.2.1 pc = .ok (.return_, 1)) : td_sim l E d y G pc ls [] D (some (0, D)) := ts_vret hr hd
theorem td_meet {as : List tv_V} (hy : plainName y.1.cls = true) (hn : (tv_en as).length ≤ y.2.2.1) (hs : td_sim l E d y G 0 (tv_lo as y.2.2.1) [] D x) : td_msim l E d y G as D x := tv_meet hy hn hs
theorem td_callS {y2 : tv_Y} {as : List tv_V} {n idx : Nat} {F : Option (Int × td_D)} {K : Int → td_D → Option (Int × td_D)} (hw : tv_mw y2 n) (hx : tv_msx y2) (hl : Cond.methodLink y.1.cls idx y2.1 ∈ tv_tb) (hn : as.length = n) (hls : ls.length = y.2.2.1) (hst : (st.map fun v => (tv_v E v).category).sum ≤ 8) (hd : decode y.2.1 pc = .ok (.invokestatic idx, 3))
    (hm : td_msim l E d y2 G (as) D F) (hk : ∀ r' D1, td_sim l E (d + 1) y G (pc + 3) ls (tv_pu y2 r' ++ st) D1 (K r' D1)) : td_sim l E (d + 1) y G pc ls (as.reverse ++ st) D (td_b F K) := by
  cases hF : F with
  | none => exact tv_none
  | some q =>
    obtain ⟨r1, D1⟩ := q
    subst hF
    have h := ts_callS (K := fun r' M1 => td_lift G (K r1 D1)) hw hx hl hn hls hst hd (F := some (r1, td_m G D1)) hm ?_
    · skip
      exact h
    · intro r' M1 hq
      cases hq
      exact hk r1 D1
theorem td_callSN {y2 : tv_Y} {as : List tv_V} {n idx : Nat} {host : String} {F : Option (Int × td_D)} {K : Int → td_D → Option (Int × td_D)} (hw : tv_mw y2 n) (hx : tv_msx y2) (hl : Cond.methodLinkNest y.1.cls idx y2.1 host ∈ tv_nb) (hn : as.length = n) (hls : ls.length = y.2.2.1) (hst : (st.map fun v => (tv_v E v).category).sum ≤ 8) (hd : decode y.2.1 pc = .ok (.invokestatic idx, 3))
    (hm : td_msim l E d y2 G (as) D F) (hk : ∀ r' D1, td_sim l E (d + 1) y G (pc + 3) ls (tv_pu y2 r' ++ st) D1 (K r' D1)) : td_sim l E (d + 1) y G pc ls (as.reverse ++ st) D (td_b F K) := by
  cases hF : F with
  | none => exact tv_none
  | some q =>
    obtain ⟨r1, D1⟩ := q
    subst hF
    have h := ts_callSN (K := fun r' M1 => td_lift G (K r1 D1)) hw hx hl hn hls hst hd (F := some (r1, td_m G D1)) hm ?_
    · skip
      exact h
    · intro r' M1 hq
      cases hq
      exact hk r1 D1
theorem td_callV {y2 : tv_Y} {as : List tv_V} {n idx : Nat} {r ci N : Nat} {T : u_T} {F : Option (Int × td_D)} {K : Int → td_D → Option (Int × td_D)} (hw : tv_mw y2 n) (hx : tv_mv y2) (hcl : tv_cls ci y2.1.cls T N) (hat : td_at G r = (ci, N)) (hl : Cond.methodLink y.1.cls idx y2.1 ∈ tv_tb) (hn : as.length = n) (hls : ls.length = y.2.2.1) (hst : (st.map fun v => (tv_v E v).category).sum ≤ 8) (hd : decode y.2.1 pc = .ok (.invokevirtual idx, 3))
    (hm : td_msim l E d y2 G (tv_R r :: as) D F) (hk : ∀ r' D1, td_sim l E (d + 1) y G (pc + 3) ls (tv_pu y2 r' ++ st) D1 (K r' D1)) : td_sim l E (d + 1) y G pc ls (as.reverse ++ tv_R r :: st) D (td_b F K) := by
  cases hF : F with
  | none => exact tv_none
  | some q =>
    obtain ⟨r1, D1⟩ := q
    subst hF
    have h := ts_callV (K := fun r' M1 => td_lift G (K r1 D1)) hw hx hcl hl hn hls hst hd (F := some (r1, td_m G D1)) hm ?_
    · rw [if_pos (by rw [td_at_eq]; exact hat)] at h
      exact h
    · intro r' M1 hq
      cases hq
      exact hk r1 D1
end TD
