theorem fe_allOf_4 {p : Int} {D : td_D} (hf : ∀ i : Nat, i < 30 → 0 ≤ D 6 i ∧ D 6 i ≤ 99) (p1 : 0 ≤ p) (p2 : p < 6) : ∀ (m n : Nat), n ≤ 5 → 5 - n < m → F_X7_allOf_4 m 5 p (sq_o (fun h => D 6 (6 * h + p.toNat)) 0 n) (n : Int) D = some (sq_o (fun h => D 6 (6 * h + p.toNat)) 0 5, D) := by
  intro m
  induction m with
  | zero => intro n q1 q2; omega
  | succ m ih =>
    intro n q1 q2
    unfold F_X7_allOf_4
    by_cases c : (5 : Int) ≤ (n : Int)
    · rw [if_pos c, show n = 5 by omega]
    · have b := sq_b (f := fun h => D 6 (6 * h + p.toNat)) (b := 0) (N := 5) (fun i hi => hf _ (by omega)) n (by omega)
      have b2 := hf (6 * n + p.toNat) (by omega)
      rw [if_neg c, fe_share (by omega) (by omega) p1 p2, td_bs, tr_5, show (6 * (n : Int) + p).toNat = 6 * n + p.toNat by omega, tw_s (a := (n : Int) + 1) (by omega) (by omega), tw_s (by omega) (by omega)]
      have i := ih (n + 1) (by omega) (by omega)
      rw [show sq_o (fun h => D 6 (6 * h + p.toNat)) 0 (n + 1) = sq_o (fun h => D 6 (6 * h + p.toNat)) 0 n + D 6 (6 * n + p.toNat) from (by
        show _ + D 6 (6 * (0 + n) + p.toNat) = _
        rw [Nat.zero_add]), show ((n + 1 : Nat) : Int) = (n : Int) + 1 by omega] at i
      exact i
theorem fm_goRound_9 {p on pe hi : Int} {E : td_D} {f : Nat → Int} (ht : p_th pe hi f (E 4)) (hh : E 1 3 = hi) (h2 : hi ≤ 5) (p1 : 0 ≤ p) (p2 : p < 6) (o1 : 0 ≤ on) (o2 : on ≤ 99) : ∀ (m n : Nat), (n : Int) ≤ hi → 5 - n < m → F_X12_goRound_9 m p (on + sq_o (fun h => f (6 * h + p.toNat)) 0 n) (n : Int) E = F_X12_goRound_42 tf_N p (on + sq_o (fun h => f (6 * h + p.toNat)) 0 5) 0 0 E := by
  intro m
  induction m with
  | zero => intro n q1 q2; omega
  | succ m ih =>
    intro n q1 q2
    unfold F_X12_goRound_9
    by_cases c : E 1 3 ≤ (n : Int)
    · rw [if_pos c, sq_z (m := n) 5 (fun k k1 k2 => by
        show f (6 * (0 + k) + p.toNat) = 0
        rw [Nat.zero_add]
        exact ht.2 k p.toNat (by omega) (by omega) (Or.inl (by omega))) (by omega)]
    · have b := sq_b (f := fun h => f (6 * h + p.toNat)) (b := 0) (N := 5) (fun i hi => (ht.1 _ (by omega)).2) n (by omega)
      have b2 := ht.1 (6 * n + p.toNat) (by omega)
      rw [if_neg c, tw_s (a := 6 * (n : Int)) (by omega) (by omega), tw_s (a := 6 * (n : Int) + p) (by omega) (by omega), if_pos (by omega), show (6 * (n : Int) + p).toNat = 6 * n + p.toNat by omega, b2.1, tw_s (a := (n : Int) + 1) (by omega) (by omega), tw_s (by omega) (by omega)]
      have i := ih (n + 1) (by omega) (by omega)
      rw [show sq_o (fun h => f (6 * h + p.toNat)) 0 (n + 1) = sq_o (fun h => f (6 * h + p.toNat)) 0 n + f (6 * n + p.toNat) from (by
        show _ + f (6 * (0 + n) + p.toNat) = _
        rw [Nat.zero_add]), show ((n + 1 : Nat) : Int) = (n : Int) + 1 by omega, ← Int.add_assoc] at i
      exact i
theorem fm_132 {all g t : Int} (kk : Int → Int → Int → td_D → Option (Int × td_D)) (t1 : t ≤ 20) : ∀ (m : Nat) (v : Int) (E : td_D), 0 ≤ v → v ≤ t → t - v < m → ∃ E' : td_D, F_X12_goRound_132 kk m all g t v E = kk all g t E' ∧ (∀ r : Nat, r ≠ 24 → E' r = E r) ∧ ∀ i : Nat, E' 24 i = if v ≤ (i : Int) ∧ (i : Int) < t then E 1 36 else E 24 i := by
  intro m
  induction m with
  | zero => intro v E q1 q2 q3; omega
  | succ m ih =>
    intro v E q1 q2 q3
    unfold F_X12_goRound_132
    by_cases c : t ≤ v
    · rw [if_pos c, show v = t by omega]
      exact ⟨E, rfl, fun _ _ => rfl, fun i => by rw [if_neg (by omega)]⟩
    · rw [if_neg c, if_pos (by omega), td_ls, tw_s (a := v + 1) (by omega) (by omega)]
      obtain ⟨E', e1, e2, e3⟩ := ih (v + 1) (td_upd E 24 v.toNat (E 1 36)) (by omega) (by omega) (by omega)
      refine ⟨E', e1, fun r hr => (e2 r hr).trans (tu_row hr), fun i => ?_⟩
      rw [e3 i, tu_row (by decide), tu_at]
      unfold tv_up
      by_cases z : v + 1 ≤ (i : Int) ∧ (i : Int) < t
      · have z2 : v ≤ (i : Int) ∧ (i : Int) < t := by omega
        simp only [if_pos z, if_pos z2]
      · by_cases z3 : i = v.toNat
        · have z2 : v ≤ (i : Int) ∧ (i : Int) < t := by omega
          simp only [if_neg z, if_pos z3]
          rw [if_pos (by omega)]
        · have z2 : ¬ (v ≤ (i : Int) ∧ (i : Int) < t) := by omega
          simp only [if_neg z, if_neg z2, if_neg z3]
theorem fe_90 {lo t : Int} (t1 : t ≤ 20) : ∀ (m : Nat) (v : Int) (D : td_D), 0 ≤ v → v ≤ t → t - v < m → ∃ D' : td_D, F_X5_goOnceFrom_90 m lo t v D = some (t, D') ∧ (∀ r : Nat, r ≠ 31 → D' r = D r) ∧ ∀ i : Nat, D' 31 i = if v ≤ (i : Int) ∧ (i : Int) < t then lo else D 31 i := by
  intro m
  induction m with
  | zero => intro v E q1 q2 q3; omega
  | succ m ih =>
    intro v E q1 q2 q3
    unfold F_X5_goOnceFrom_90
    by_cases c : t ≤ v
    · rw [if_pos c]
      exact ⟨E, rfl, fun _ _ => rfl, fun i => by rw [if_neg (by omega)]⟩
    · rw [if_neg c, if_pos (by omega), td_ls, tw_s (a := v + 1) (by omega) (by omega)]
      obtain ⟨E', e1, e2, e3⟩ := ih (v + 1) (td_upd E 31 v.toNat lo) (by omega) (by omega) (by omega)
      refine ⟨E', e1, fun r hr => (e2 r hr).trans (tu_row hr), fun i => ?_⟩
      rw [e3 i, tu_at]
      unfold tv_up
      by_cases z : v + 1 ≤ (i : Int) ∧ (i : Int) < t
      · have z2 : v ≤ (i : Int) ∧ (i : Int) < t := by omega
        simp only [if_pos z, if_pos z2]
      · by_cases z3 : i = v.toNat
        · have z2 : v ≤ (i : Int) ∧ (i : Int) < t := by omega
          simp only [if_neg z, if_pos z3]
          rw [if_pos (by omega)]
        · have z2 : ¬ (v ≤ (i : Int) ∧ (i : Int) < t) := by omega
          simp only [if_neg z, if_neg z2, if_neg z3]
theorem fe_needs {all k de : Int} {D : td_D} (hk : D 29 2 = k) (k2 : k ≤ 20) (hd : ∀ i : Nat, (i : Int) < k → 0 ≤ D 30 i ∧ D 30 i < 10) : ∀ (m : Nat) (v : Int), 0 ≤ v → v ≤ 20 → 20 - v < m → (F_X5_needsMoreThan_2 m all v D = some (0, D) ∧ ∀ i : Nat, v ≤ (i : Int) → (i : Int) < k → D 7 (D 30 i).toNat ≤ all) ∨ (F_X5_needsMoreThan_2 m all v D = some (1, D) ∧ ∃ i : Nat, (i : Int) < k ∧ all < D 7 (D 30 i).toNat) := by
  intro m
  induction m with
  | zero => intro v q1 q2 q3; omega
  | succ m ih =>
    intro v q1 q2 q3
    unfold F_X5_needsMoreThan_2
    rw [hk]
    by_cases c : k ≤ v
    · rw [if_pos c]
      exact Or.inl ⟨rfl, fun i h1 h2 => by omega⟩
    · have y := hd v.toNat (by omega)
      rw [if_neg c, if_pos (by omega), if_pos (by omega), tw_s (a := v + 1) (by omega) (by omega)]
      by_cases c1 : D 7 (D 30 v.toNat).toNat ≤ all
      · rw [if_pos c1]
        rcases ih (v + 1) (by omega) (by omega) (by omega) with ⟨a1, a2⟩ | a
        · refine Or.inl ⟨a1, fun i h1 h2 => ?_⟩
          by_cases z : (i : Int) = v
          · rw [show i = v.toNat by omega]
            exact c1
          · exact a2 i (by omega) h2
        · exact Or.inr a
      · rw [if_neg c1]
        exact Or.inr ⟨rfl, v.toNat, by omega, by omega⟩
