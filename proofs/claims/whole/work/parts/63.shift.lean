theorem fm_150 {a j n : Int} (h1 : 0 ≤ a) (h2 : a ≤ 5) (h3 : 0 ≤ j) (h4 : j + n ≤ 60) : ∀ (m : Nat) (v : Int) (D : td_D), 0 ≤ v → v ≤ n → n - v < m → ∃ D' : td_D, F_X12_shift_150 m a j n v D = some (n, D') ∧ (∀ r : Nat, r ≠ 39 → D' r = D r) ∧ ∀ y : Nat, D' 39 y = if 60 * a + j + v ≤ (y : Int) ∧ (y : Int) < 60 * a + j + n then D 40 (y - (60 * a + j).toNat) else D 39 y := by
  intro m
  induction m with
  | zero => intro v D q1 q2 q3; omega
  | succ m ih =>
    intro v D q1 q2 q3
    unfold F_X12_shift_150
    by_cases c : n ≤ v
    · rw [if_pos c]
      refine ⟨D, rfl, fun _ _ => rfl, fun y => ?_⟩
      rw [if_neg (by omega)]
    · simp (disch := omega) only [if_pos, if_neg, td_ls, tw_s]
      obtain ⟨D', f1, f2, f3⟩ := ih (v + 1) (td_upd D 39 (60 * a + j + v).toNat (D 40 v.toNat)) (by omega) (by omega) (by omega)
      refine ⟨D', f1, fun r hr => (f2 r hr).trans (tu_row hr), fun y => ?_⟩
      rw [f3 y, tu_row (by decide), tu_at]
      unfold tv_up
      by_cases z : 60 * a + j + (v + 1) ≤ (y : Int) ∧ (y : Int) < 60 * a + j + n
      · have z2 : 60 * a + j + v ≤ (y : Int) ∧ (y : Int) < 60 * a + j + n := by omega
        simp only [if_pos z, if_pos z2]
      · by_cases z3 : y = (60 * a + j + v).toNat
        · have z2 : 60 * a + j + v ≤ (y : Int) ∧ (y : Int) < 60 * a + j + n := by omega
          simp only [if_neg z, if_pos z3]
          rw [if_pos z2]
          congr 1
          omega
        · have z2 : ¬ (60 * a + j + v ≤ (y : Int) ∧ (y : Int) < 60 * a + j + n) := by omega
          simp only [if_neg z, if_neg z2, if_neg z3]
theorem fm_113 {s i a j n : Int} (s1 : 0 ≤ s) (s2 : s ≤ 5) (i1 : 0 ≤ i) (i2 : i + n ≤ 60) (hn : n ≤ 60) : ∀ (m : Nat) (v : Int) (D : td_D), 0 ≤ v → v ≤ n → n - v < m → ∃ D' : td_D, F_X12_shift_113 m s i a j n v D = F_X12_shift_150 tf_N a j n 0 D' ∧ (∀ r : Nat, r ≠ 40 → D' r = D r) ∧ ∀ y : Nat, D' 40 y = if v ≤ (y : Int) ∧ (y : Int) < n then D 39 ((60 * s + i).toNat + y) else D 40 y := by
  intro m
  induction m with
  | zero => intro v D q1 q2 q3; omega
  | succ m ih =>
    intro v D q1 q2 q3
    unfold F_X12_shift_113
    by_cases c : n ≤ v
    · rw [if_pos c]
      refine ⟨D, rfl, fun _ _ => rfl, fun y => ?_⟩
      rw [if_neg (by omega)]
    · simp (disch := omega) only [if_pos, if_neg, td_ls, tw_s]
      obtain ⟨D', f1, f2, f3⟩ := ih (v + 1) (td_upd D 40 v.toNat (D 39 (60 * s + i + v).toNat)) (by omega) (by omega) (by omega)
      refine ⟨D', f1, fun r hr => (f2 r hr).trans (tu_row hr), fun y => ?_⟩
      rw [f3 y, tu_row (by decide), tu_at]
      unfold tv_up
      by_cases z : v + 1 ≤ (y : Int) ∧ (y : Int) < n
      · have z2 : v ≤ (y : Int) ∧ (y : Int) < n := by omega
        simp only [if_pos z, if_pos z2]
      · by_cases z3 : y = v.toNat
        · have z2 : v ≤ (y : Int) ∧ (y : Int) < n := by omega
          simp only [if_neg z, if_pos z3]
          rw [if_pos z2]
          congr 1
          omega
        · have z2 : ¬ (v ≤ (y : Int) ∧ (y : Int) < n) := by omega
          simp only [if_neg z, if_neg z2, if_neg z3]
/-- shift -/
theorem st_42 : ls_42 lw_R := by
  intro a1 a2 a3 a4 a5 Dc Dm _ i2 _ i4 i5 _ hR
  unfold F_X11_shift F_X12_shift
  simp only [fe_isShelf, fm_isShelf, td_bs, tf_0]
  by_cases c : 0 ≤ a1 ∧ a1 ≤ 5
  · by_cases d : 0 ≤ a3 ∧ a3 ≤ 5
    · simp only [if_neg (show ¬ ¬ (0 ≤ a1 ∧ a1 ≤ 5) from fun q => q c), if_neg (show ¬ ¬ (0 ≤ a3 ∧ a3 ≤ 5) from fun q => q d), if_pos (show 0 ≤ a1 ∧ a1 < ((6 : Nat) : Int) by omega), if_pos (show 0 ≤ a3 ∧ a3 < ((6 : Nat) : Int) by omega)]
      rw [tr_46 (k := a1.toNat) (by omega), tr_46 (k := a3.toNat) (by omega)]
      rcases sh_k (sh_all hR a1.toNat (by omega)) with ⟨k1, k2⟩ | ⟨k1, k2, k3, k4⟩ | ⟨k1, k2, k3, k4, k5, k6, k7⟩
      · simp (disch := omega) only [if_pos, if_neg]
        exact lw_rt rfl hR
      · rcases sh_k (sh_all hR a3.toNat (by omega)) with ⟨g1, g2⟩ | ⟨g1, g2, g3, g4⟩ | ⟨g1, g2, g3, g4, g5, g6, g7⟩
        · simp (disch := omega) only [if_pos, if_neg]
          exact lw_rt rfl hR
        · simp (disch := omega) only [if_pos, if_neg]
          exact lw_rt rfl hR
        · simp (disch := omega) only [if_pos, if_neg]
          exact lw_rt rfl hR
      · rcases sh_k (sh_all hR a3.toNat (by omega)) with ⟨g1, g2⟩ | ⟨g1, g2, g3, g4⟩ | ⟨g1, g2, g3, g4, g5, g6, g7⟩
        · simp (disch := omega) only [if_pos, if_neg]
          exact lw_rt rfl hR
        · simp (disch := omega) only [if_pos, if_neg]
          exact lw_rt rfl hR
        · by_cases e : Dc (47 + 2 * a1.toNat) 0 = Dc (47 + 2 * a3.toNat) 0
          · simp only [if_neg (show ¬ Dc (47 + 2 * a1.toNat) 0 = -1 by omega), if_neg (show ¬ Dc (47 + 2 * a3.toNat) 0 = -1 by omega), if_neg (show ¬ Dc (47 + 2 * a1.toNat) 0 = 5 by omega), if_pos e, if_neg (show ¬ Dm 37 a1.toNat = -1 by omega), if_neg (show ¬ Dm 37 a3.toNat = -1 by omega), if_neg (show ¬ 0 ≤ Dm 37 a1.toNat by omega), if_pos (show Dm 37 a1.toNat = Dm 37 a3.toNat by omega)]
            by_cases p1 : a5 < 0
            · simp only [if_pos p1]
              exact lw_rt rfl hR
            · by_cases p2 : a2 < 0
              · simp only [if_neg p1, if_pos p2]
                exact lw_rt rfl hR
              · by_cases p3 : a4 < 0
                · simp only [if_neg p1, if_neg p2, if_pos p3]
                  exact lw_rt rfl hR
                · have j2 := i2.2
                  have j4 := i4.2
                  have j5 := i5.2
                  simp (disch := omega) only [if_neg p1, if_neg p2, if_neg p3, tw_s]
                  by_cases p4 : Dc (47 + 2 * a1.toNat) 2 - a2 < a5
                  · simp (disch := omega) only [if_pos]
                    exact lw_rt rfl hR
                  · by_cases p5 : a5 ≤ Dc (47 + 2 * a3.toNat) 2 - a4
                    · simp (disch := omega) only [if_pos, if_neg, td_ls, tr_sh]
                      obtain ⟨D1, f1, f2, f3⟩ := fm_113 (a := a3) (j := a4) c.1 c.2 (show 0 ≤ a2 by omega) (show a2 + a5 ≤ 60 by omega) (by omega) tf_N 0 Dm (by omega) (by omega) (by unfold tf_N; omega)
                      obtain ⟨D2, h1, h2, h3⟩ := fm_150 d.1 d.2 (show 0 ≤ a4 by omega) (show a4 + a5 ≤ 60 by omega) tf_N 0 D1 (by omega) (by omega) (by unfold tf_N; omega)
                      rw [f1, h1]
                      have m39 : ∀ y : Nat, D2 39 y = if 60 * a3 + a4 ≤ (y : Int) ∧ (y : Int) < 60 * a3 + a4 + a5 then Dm 39 ((60 * a1 + a2).toNat + (y - (60 * a3 + a4).toNat)) else Dm 39 y := by
                        intro y
                        rw [h3 y, f2 39 (by decide), f3]
                        by_cases z : 60 * a3 + a4 ≤ (y : Int) ∧ (y : Int) < 60 * a3 + a4 + a5
                        · rw [if_pos z, if_pos (by omega), if_pos (by omega)]
                        · rw [if_neg z, if_neg (by omega)]
                      refine lw_rt rfl (sh_U (s0 := a3.toNat) (by omega) hR (fun r x1 x2 => tc_row x2) (fun r x1 x2 x3 x4 => (h2 r x3).trans (f2 r x4)) (fun s hs => by rw [h2 37 (by decide), f2 37 (by decide)]) (fun s hs => by rw [h2 38 (by decide), f2 38 (by decide)]) (fun j hj => by rw [m39, if_neg (by omega)]) ?_)
                      unfold p_shelf
                      right; right
                      rw [h2 37 (by decide), f2 37 (by decide), h2 38 (by decide), f2 38 (by decide), tc_row (by omega)]
                      refine ⟨by omega, by omega, by omega, g4, g5, g6, fun x hx => ?_⟩
                      rw [tc_at, m39]
                      by_cases z : a4.toNat ≤ x ∧ x < a4.toNat + a5.toNat
                      · rw [if_pos z, if_pos (by omega)]
                        have b := k7 (a2.toNat + (x - a4.toNat)) (by omega)
                        rw [e] at b
                        rw [show (60 * a1 + a2).toNat + (60 * a3.toNat + x - (60 * a3 + a4).toNat) = 60 * a1.toNat + (a2.toNat + (x - a4.toNat)) by omega]
                        exact b
                      · rw [if_neg z, if_neg (by omega)]
                        exact g7 x hx
                    · simp (disch := omega) only [if_pos, if_neg]
                      exact lw_rt rfl hR
          · simp (disch := omega) only [if_pos, if_neg]
            exact lw_rt rfl hR
    · simp only [if_neg (show ¬ ¬ (0 ≤ a1 ∧ a1 ≤ 5) from fun q => q c), if_pos d]
      exact lw_rt rfl hR
  · simp only [if_pos c]
    exact lw_rt rfl hR
