/-- values: an int, a long, a reference (0: null, r + 1: the cell r of the region), a static array, nothing -/
abbrev tv_V : Type := Int ⊕ Int ⊕ Nat ⊕ Nat ⊕ Unit
abbrev tv_I (a : Int) : tv_V := .inl a
abbrev tv_J (a : Int) : tv_V := .inr (.inl a)
abbrev tv_R (r : Nat) : tv_V := .inr (.inr (.inl r))
abbrev tv_S (k : Nat) : tv_V := .inr (.inr (.inr (.inl k)))
abbrev tv_U : tv_V := .inr (.inr (.inr (.inr ())))
/-- memory: the cells' kinds and lengths, what each place of each cell holds -/
abbrev tv_M : Type := List (Nat × Nat) × (Nat → Nat → Int)
def tv_w (a : Int) : Int := (a + 2147483648) % 4294967296 - 2147483648
def tv_wl (a : Int) : Int := (a + 9223372036854775808) % 18446744073709551616 - 9223372036854775808
def tv_in (a : Int) : Prop := -2147483648 ≤ a ∧ a ≤ 2147483647
def tv_inl (a : Int) : Prop := -9223372036854775808 ≤ a ∧ a ≤ 9223372036854775807
theorem tv_w_id {a : Int} (h : tv_in a) : tv_w a = a := by unfold tv_in at h; unfold tv_w; omega
theorem tv_w_in (a : Int) : tv_in (tv_w a) := by unfold tv_in tv_w; omega
theorem tv_wl_id {a : Int} (h : tv_inl a) : tv_wl a = a := by unfold tv_inl at h; unfold tv_wl; omega
theorem tv_wl_in (a : Int) : tv_inl (tv_wl a) := by unfold tv_inl tv_wl; omega
theorem tv_toInt (a : Int) : (Int32.ofInt a).toInt = tv_w a := by
  rw [Int32.toInt_ofInt]
  simp only [Int.bmod_def, tv_w, Int32.size]
  omega
theorem tv_toIntL (a : Int) : (Int64.ofInt a).toInt = tv_wl a := by
  rw [Int64.toInt_ofInt]
  simp only [Int.bmod_def, tv_wl, Int64.size]
  omega
theorem tv_eqI {x y : Int32} (h : x.toInt = y.toInt) : x = y := Int32.toInt_inj.mp h
theorem tv_eqJ {x y : Int64} (h : x.toInt = y.toInt) : x = y := Int64.toInt_inj.mp h
theorem tv_inI (x : Int32) : tv_in x.toInt := by
  have h1 := Int32.toInt_lt x
  have h2 := Int32.le_toInt x
  unfold tv_in; omega
theorem tv_inJ (x : Int64) : tv_inl x.toInt := by
  have h1 := Int64.toInt_lt x
  have h2 := Int64.le_toInt x
  unfold tv_inl; omega
theorem tv_ww (a : Int) : tv_w (tv_w a) = tv_w a := tv_w_id (tv_w_in a)
theorem tv_ofw (a : Int) : Int32.ofInt (tv_w a) = Int32.ofInt a := tv_eqI (by rw [tv_toInt, tv_toInt, tv_ww])
theorem tv_ofwl (a : Int) : Int64.ofInt (tv_wl a) = Int64.ofInt a := tv_eqJ (by rw [tv_toIntL, tv_toIntL, tv_wl_id (tv_wl_in a)])
theorem tv_add (a b : Int) : Int32.ofInt a + Int32.ofInt b = Int32.ofInt (tv_w (a + b)) := by
  rw [tv_ofw, Int32.ofInt_add]
theorem tv_sub (a b : Int) : Int32.ofInt a - Int32.ofInt b = Int32.ofInt (tv_w (a - b)) := by
  rw [tv_ofw, Int32.ofInt_sub]
theorem tv_mul (a b : Int) : Int32.ofInt a * Int32.ofInt b = Int32.ofInt (tv_w (a * b)) := by
  rw [tv_ofw, Int32.ofInt_mul]
theorem tv_neg (a : Int) : -Int32.ofInt a = Int32.ofInt (tv_w (-a)) := by
  rw [tv_ofw, Int32.ofInt_neg]
theorem tv_addl (a b : Int) : Int64.ofInt a + Int64.ofInt b = Int64.ofInt (tv_wl (a + b)) := by
  rw [tv_ofwl, Int64.ofInt_add]
theorem tv_le {a b : Int} (ha : tv_in a) (hb : tv_in b) : Int32.ofInt a ≤ Int32.ofInt b ↔ a ≤ b := by
  rw [Int32.le_iff_toInt_le, tv_toInt, tv_toInt, tv_w_id ha, tv_w_id hb]
theorem tv_lt {a b : Int} (ha : tv_in a) (hb : tv_in b) : Int32.ofInt a < Int32.ofInt b ↔ a < b := by
  rw [Int32.lt_iff_toInt_lt, tv_toInt, tv_toInt, tv_w_id ha, tv_w_id hb]
theorem tv_eq {a b : Int} (ha : tv_in a) (hb : tv_in b) : Int32.ofInt a = Int32.ofInt b ↔ a = b := by
  rw [← Int32.toInt_inj, tv_toInt, tv_toInt, tv_w_id ha, tv_w_id hb]
theorem tv_ltl {a b : Int} (ha : tv_inl a) (hb : tv_inl b) : Int64.ofInt a < Int64.ofInt b ↔ a < b := by
  rw [Int64.lt_iff_toInt_lt, tv_toIntL, tv_toIntL, tv_wl_id ha, tv_wl_id hb]
theorem tv_eql {a b : Int} (ha : tv_inl a) (hb : tv_inl b) : Int64.ofInt a = Int64.ofInt b ↔ a = b := by
  rw [← Int64.toInt_inj, tv_toIntL, tv_toIntL, tv_wl_id ha, tv_wl_id hb]
theorem tv_in0 : tv_in 0 := by unfold tv_in; omega
def tv_div (a b : Int) : Int := tv_w (Int.tdiv a b)
def tv_rem (a b : Int) : Int := Int.tmod a b
theorem tv_divI {a b : Int} (ha : tv_in a) (hb : tv_in b) : Int32.ofInt a / Int32.ofInt b = Int32.ofInt (tv_div a b) := by
  apply tv_eqI
  rw [Int32.toInt_div, tv_toInt, tv_toInt, tv_toInt, tv_w_id ha, tv_w_id hb, tv_div, tv_ww]
  simp only [Int.bmod_def, tv_w]
  omega
theorem tv_remI {a b : Int} (ha : tv_in a) (hb : tv_in b) : Int32.ofInt a - Int32.ofInt a / Int32.ofInt b * Int32.ofInt b = Int32.ofInt (tv_rem a b) := by
  rw [tv_divI ha hb, tv_mul, tv_sub, tv_ofw]
  apply tv_eqI
  rw [tv_toInt, tv_toInt]
  have h := Int.tmod_add_mul_tdiv a b
  have e : tv_rem a b = a - b * Int.tdiv a b := by unfold tv_rem; omega
  rw [e, tv_div]
  unfold tv_w
  generalize Int.tdiv a b = q
  have h2 : ((q + 2147483648) % 4294967296 - 2147483648) * b = q * b - 4294967296 * (((q + 2147483648) / 4294967296) * b) := by
    have h3 := Int.emod_add_mul_ediv (q + 2147483648) 4294967296
    have h4 : (q + 2147483648) % 4294967296 - 2147483648 = q - 4294967296 * ((q + 2147483648) / 4294967296) := by omega
    rw [h4, Int.sub_mul, Int.mul_assoc]
  rw [h2, Int.mul_comm b q]
  generalize q * b = x
  generalize (q + 2147483648) / 4294967296 * b = y
  omega
theorem tv_rem_in {a b : Int} (ha : tv_in a) (hb : tv_in b) : tv_in (tv_rem a b) := by
  unfold tv_rem tv_in at *
  have h1 : (a.tmod b).natAbs ≤ a.natAbs := by rw [Int.natAbs_tmod]; exact Nat.mod_le _ _
  by_cases hp : 0 ≤ a
  · have h2 := Int.tmod_nonneg b hp
    omega
  · have h2 : a.tmod b = -((-a).tmod b) := by rw [Int.neg_tmod]; omega
    have h3 := Int.tmod_nonneg b (show 0 ≤ -a by omega)
    omega
def tv_and (a b : Int) : Int := (Int32.ofInt a &&& Int32.ofInt b).toInt
def tv_or (a b : Int) : Int := (Int32.ofInt a ||| Int32.ofInt b).toInt
def tv_xor (a b : Int) : Int := (Int32.ofInt a ^^^ Int32.ofInt b).toInt
def tv_shl (a b : Int) : Int := (Int32.ofInt a <<< (Int32.ofInt b &&& 31)).toInt
def tv_shr (a b : Int) : Int := (Int32.ofInt a >>> (Int32.ofInt b &&& 31)).toInt
theorem tv_ofTo (x : Int32) : Int32.ofInt x.toInt = x := Int32.ofInt_toInt x
theorem tv_ofToL (x : Int64) : Int64.ofInt x.toInt = x := Int64.ofInt_toInt x
theorem tv_nc {a : Int} (h : tv_in a) (h0 : 0 ≤ a) : (Int32.ofInt a).toNatClampNeg = a.toNat := by
  show (Int32.ofInt a).toInt.toNat = _
  rw [tv_toInt, tv_w_id h]
theorem tv_vin {a : Int} {n : Nat} (h : tv_in a) (h0 : 0 ≤ a) (hn : a < n) : vp_in (Int32.ofInt a) n := by
  rw [vp_in_iff, tv_toInt, tv_w_id h]
  exact ⟨h0, hn⟩
