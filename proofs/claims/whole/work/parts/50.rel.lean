/-- rows that an update leaves, and the one that it changes -/
theorem tu_row {D : td_D} {r r' j : Nat} {v : Int} (h : r' ≠ r) : td_upd D r j v r' = D r' := by
  funext i
  show (if _ then _ else _) = _
  rw [if_neg (fun q => h q.1)]
theorem tu_at {D : td_D} {r j : Nat} {v : Int} : td_upd D r j v r = tv_up (D r) j v := by
  funext i
  simp [td_upd, tv_up]
theorem tu_same {f : Nat → Int} {j : Nat} {v : Int} : tv_up f j v j = v := by simp [tv_up]
theorem tu_ne {f : Nat → Int} {i j : Nat} {v : Int} (h : i ≠ j) : tv_up f j v i = f i := by simp [tv_up, h]
theorem td_bs {r : Int} {D : td_D} {K : Int → td_D → Option (Int × td_D)} : td_b (some (r, D)) K = K r D := rfl
theorem td_ls {D : td_D} {K : td_D → Option (Int × td_D)} : td_l D K = K D := rfl
theorem tw_s {a : Int} (h1 : -2147483648 ≤ a) (h2 : a ≤ 2147483647) : tv_w a = a := by unfold tv_w; omega
/-- people, hives, deeds and their rows -/
def p_land (pe hi de : Int) (on ce sh nd mo wo : Nat → Int) (pe' hi' de' : Int) (on' ce' sh' nd' mo' wo' : Nat → Int) : Prop :=
  (pe' = pe ∧ 0 ≤ pe ∧ pe ≤ 6) ∧ (hi' = hi ∧ 0 ≤ hi ∧ hi ≤ 5) ∧ (de' = de ∧ 0 ≤ de ∧ de ≤ 10) ∧
  (∀ i : Nat, i < 6 → on' i = on i ∧ 0 ≤ on i ∧ on i ≤ 99) ∧ (∀ i : Nat, i < 5 → ce' i = ce i ∧ 0 ≤ ce i ∧ ce i ≤ 99) ∧
  (∀ i : Nat, i < 30 → sh' i = sh i ∧ 0 ≤ sh i ∧ sh i ≤ 99) ∧ (∀ h p : Nat, h < 5 → p < 6 → (hi ≤ (h : Int) ∨ pe ≤ (p : Int)) → sh (6 * h + p) = 0) ∧
  (∀ i : Nat, i < 10 → nd' i = nd i ∧ 0 ≤ nd i ∧ nd i ≤ 99) ∧ (∀ i : Nat, i < 10 → mo' i = mo i ∧ 0 ≤ mo i ∧ mo i ≤ 99) ∧ (∀ i : Nat, i < 10 → wo' i = wo i ∧ 0 ≤ wo i ∧ wo i ≤ 99) ∧ (∀ i : Nat, i < 10 → nd i ≤ mo i)
/-- season, reach, fear, loss -/
def p_set (a b c d : Int) (told : Nat → Int) : Prop :=
  (told 0 = a ∧ 0 ≤ a ∧ a ≤ 3) ∧ (told 1 = b ∧ 1 ≤ b ∧ b ≤ 20) ∧ (told 2 = c ∧ 0 ≤ c ∧ c ≤ 12) ∧ (told 3 = d ∧ 0 ≤ d ∧ d ≤ 99)
def p_tape (n : Int) (f : Nat → Int) (n' : Int) (f' : Nat → Int) : Prop :=
  (n' = n ∧ 0 ≤ n ∧ n ≤ 120) ∧ ∀ i : Nat, (i : Int) < n → f' i = tv_i2b (f i) ∧ 0 ≤ f i ∧ f i ≤ 255
def p_led (f f' : Nat → Int) : Prop := ∀ i : Nat, i < 6 → f' i = f i
def p_img (pe hi : Int) (th ip : Int) (on sh le : Nat → Int) (th' ip' ih' : Int) (on' sh' le' : Nat → Int) : Prop :=
  th' = th ∧ (th = 0 ∨ th = 1) ∧ (th = 1 → (ip' = ip ∧ 0 ≤ ip ∧ ip ≤ pe) ∧ (0 ≤ ih' ∧ ih' ≤ hi) ∧ (∀ i : Nat, (i : Int) < ip → on' i = on i ∧ 0 ≤ on i ∧ on i ≤ 99) ∧ (∀ i : Nat, i < 30 → sh' i = sh i ∧ 0 ≤ sh i ∧ sh i ≤ 99) ∧ (∀ h p : Nat, h < 5 → p < 6 → (ih' ≤ (h : Int) ∨ ip ≤ (p : Int)) → sh (6 * h + p) = 0) ∧ ∀ i : Nat, i < 6 → le' i = le i)
def p_bod (n : Int) (kd : Nat → Int) (rn : Int) (tr : Nat → Int) (n' : Int) (kd' : Nat → Int) (rn' : Int) (tr' : Nat → Int) : Prop :=
  (n' = n ∧ 0 ≤ n ∧ n ≤ 50) ∧ (∀ i : Nat, (i : Int) < n → kd' i = kd i ∧ 0 ≤ kd i ∧ kd i ≤ 7) ∧ (rn' = rn ∧ 0 ≤ rn ∧ rn ≤ 10000) ∧ ∀ i : Nat, i < 24 → (i : Int) < rn → tr' i = tr i
/-- what an element of a sort may be -/
def p_el (sort v : Int) : Prop := (sort = 0 → -128 ≤ v ∧ v ≤ 127) ∧ (sort = 1 → -32768 ≤ v ∧ v ≤ 32767)
def p_shelf (n : Int) (s : Nat) (o e : Nat → Int) (ho si el : Nat → Int) : Prop :=
  (ho s = -1 ∧ o 0 = -1) ∨ (0 ≤ ho s ∧ ho s < n ∧ o 0 = 5 ∧ o 1 = ho s) ∨
  (-6 ≤ ho s ∧ ho s ≤ -2 ∧ o 0 = -2 - ho s ∧ o 2 = si s ∧ 0 ≤ o 2 ∧ o 2 ≤ 60 ∧ ∀ i : Nat, (i : Int) < o 2 → el (60 * s + i) = e i ∧ p_el (o 0) (e i))
/-- a change's number and value -/
def p_ch (pe hi de what num v : Int) : Prop :=
  (what = 0 ∧ 0 ≤ num ∧ num < pe ∧ 0 ≤ v ∧ v ≤ 99) ∨ (what = 1 ∧ 0 ≤ num ∧ num / 10 < hi ∧ num % 10 < pe ∧ 0 ≤ v ∧ v ≤ 99) ∨ (what = 2 ∧ 0 ≤ num ∧ num < hi ∧ 0 ≤ v ∧ v ≤ 99) ∨
  ((what = 3 ∨ what = 4 ∨ what = 5) ∧ 0 ≤ num ∧ num < de ∧ 0 ≤ v ∧ v ≤ 99) ∨ (what = 6 ∧ 0 ≤ v ∧ v ≤ 3) ∨ (what = 7 ∧ 1 ≤ v ∧ v ≤ 20) ∨ (what = 8 ∧ 0 ≤ v ∧ v ≤ 12) ∨ (what = 9 ∧ 0 ≤ v ∧ v ≤ 99)
/-- changes; V: what NEEDS (0) and MOST (1) were behind k of them -/
def p_chg (pe hi de : Int) (nd mo : Nat → Int) (sz sd : Int) (nu wh wa be : Nat → Int) (dn un : Int) (of at' bf bh : Nat → Int) : Prop :=
  (dn = sd ∧ un = sz - sd ∧ 0 ≤ sd ∧ sd ≤ sz ∧ sz ≤ 40) ∧
  (∀ k : Nat, (k : Int) < sz → (of k = wh k ∧ at' k = nu k ∧ bf k = wa k ∧ bh k = be k) ∧ p_ch pe hi de (wh k) (nu k) (wa k) ∧ p_ch pe hi de (wh k) (nu k) (be k)) ∧
  ∃ V : Nat → Nat → Nat → Int, (∀ i : Nat, i < 10 → V sd.toNat 0 i = nd i ∧ V sd.toNat 1 i = mo i) ∧ (∀ k i : Nat, (k : Int) ≤ sz → i < 10 → V k 0 i ≤ V k 1 i) ∧
    ∀ k : Nat, (k : Int) < sz → (∀ t i : Nat, t < 2 → i < 10 → ¬ (wh k = (t : Int) + 3 ∧ nu k = (i : Int)) → V (k + 1) t i = V k t i) ∧ (∀ t : Nat, t < 2 → wh k = (t : Int) + 3 → V k t (nu k).toNat = wa k ∧ V (k + 1) t (nu k).toNat = be k)
