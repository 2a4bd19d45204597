/-- how many sting in a cell, out of the month foreseen -/
theorem bn_le {f ce : Nat → Int} {re xy : Int} : ∀ n : Nat, bn_o f ce re xy n ≤ n := by
  intro n
  induction n with
  | zero => exact Nat.le_refl _
  | succ n ih =>
    show bn_o f ce re xy n + (if ds_o f ce re xy n then 1 else 0) ≤ n + 1
    split <;> omega
theorem fe_on {f ce : Nat → Int} {re cl hi : Int} {d : Nat} {D : td_D} (d30 : d < 30) (hh : D 2 1 = hi) (h1 : 0 ≤ hi) (h2 : hi ≤ 5) (hc : ∀ i : Nat, i < 5 → D 4 i = ce i ∧ 0 ≤ ce i ∧ ce i ≤ 99) (hg : ∀ h : Nat, (h : Int) < hi → D 59 (5 * d + h) = fo_o (al_o f (h : Int)) re) (x1 : 0 ≤ cl) (x2 : cl ≤ 99) : ∀ (m n : Nat), (n : Int) ≤ hi → 5 - n < m → F_X11_stingsOn_5 m (d : Int) cl ((bn_o f ce re cl n : Nat) : Int) (n : Int) D = some (((bn_o f ce re cl hi.toNat : Nat) : Int), D) := by
  intro m
  induction m with
  | zero => intro n q1 q2; omega
  | succ m ih =>
    intro n q1 q2
    unfold F_X11_stingsOn_5
    rw [hh]
    by_cases c : hi ≤ (n : Int)
    · rw [if_pos c, show hi.toNat = n by omega]
    · have b := hc n (by omega)
      have bl := @bn_le f ce re cl n
      have k1 : 0 ≤ (n : Int) ∧ (n : Int) < ((5 : Nat) : Int) := by omega
      have k2 : 0 ≤ ((5 * d + n : Nat) : Int) ∧ ((5 * d + n : Nat) : Int) < ((150 : Nat) : Int) := by omega
      have k3 : (n : Int) < hi := by omega
      have k4 : ((n + 1 : Nat) : Int) = (n : Int) + 1 := by omega
      have k5 : ((bn_o f ce re cl n + 1 : Nat) : Int) = ((bn_o f ce re cl n : Nat) : Int) + 1 := by omega
      have i := ih (n + 1) (by omega) (by omega)
      rw [k4] at i
      have w1 : tv_w ((n : Int) + 1) = (n : Int) + 1 := tw_s (by omega) (by omega)
      have w2 : tv_w (((bn_o f ce re cl n : Nat) : Int) + 0) = ((bn_o f ce re cl n : Nat) : Int) := by rw [Int.add_zero]; exact tw_s (by clear w1; omega) (by clear w1; omega)
      have w3 : tv_w (((bn_o f ce re cl n : Nat) : Int) + 1) = ((bn_o f ce re cl n : Nat) : Int) + 1 := tw_s (by clear w1 w2; omega) (by clear w1 w2; omega)
      have ej : tv_w (tv_w ((d : Int) * 5) + (n : Int)) = ((5 * d + n : Nat) : Int) := by
        clear w1 w2 w3
        rw [tw_s (a := (d : Int) * 5) (by omega) (by omega), tw_s (by omega) (by omega)]
        omega
      rw [if_neg c, if_pos k1, Int.toNat_natCast, b.1, fe_apart x1 x2 b.2.1 b.2.2, td_bs, ej, if_pos k2, Int.toNat_natCast, hg n k3, w1, w2, w3]
      clear w1 w2 w3 ej
      by_cases z : da_o cl (ce n) ≤ fo_o (al_o f (n : Int)) re
      · have e : bn_o f ce re cl (n + 1) = bn_o f ce re cl n + 1 := by
          show _ + (if ds_o _ _ _ _ _ then _ else _) = _
          rw [if_pos (show ds_o f ce re cl n = true from decide_eq_true z)]
        rw [e, k5] at i
        rw [if_neg (Int.not_lt.mpr z)]
        exact i
      · have e : bn_o f ce re cl (n + 1) = bn_o f ce re cl n := by
          show _ + (if ds_o _ _ _ _ _ then _ else _) = _
          rw [if_neg (show ¬ ds_o f ce re cl n = true from fun y => z (of_decide_eq_true y))]
          rfl
        rw [e] at i
        rw [if_pos (Int.not_le.mp z)]
        exact i
