theorem st_24 : ls_24 lw_R := by
  intro a1 a2 a3 Dc Dm _ i2 _ _ hR
  unfold F_X11_drawn F_X12_drawn
  have j2 := i2.2
  by_cases c0 : a2 < 0
  · rw [if_pos c0, if_pos c0]
    exact lk_R (lk_0 rfl) hR
  · rw [if_neg c0, if_neg c0, tv_dv (by omega) j2 (by omega), tv_rme (by omega)]
    simp only [fm_in, tb_s, tf_0]
    by_cases c1 : 1 ≤ a2 / 100 ∧ a2 / 100 ≤ 30
    · have nn1 : ¬ ¬ (1 ≤ a2 / 100 ∧ a2 / 100 ≤ 30) := fun q => q c1
      simp only [if_neg nn1, if_neg (show ¬ a2 / 100 < 1 by omega), if_neg (show ¬ 30 < a2 / 100 by omega)]
      by_cases c2 : 1 ≤ a2 % 100 ∧ a2 % 100 ≤ 30
      · have nn2 : ¬ ¬ (1 ≤ a2 % 100 ∧ a2 % 100 ≤ 30) := fun q => q c2
        simp only [if_neg nn2, if_neg (show ¬ a2 % 100 < 1 by omega), if_pos c2.2]
        by_cases c3 : 0 ≤ a3 ∧ a3 ≤ 1
        · have nn3 : ¬ ¬ (0 ≤ a3 ∧ a3 ≤ 1) := fun q => q c3
          simp only [if_neg nn3, if_neg (show ¬ a3 < 0 by omega), if_pos c3.2]
          obtain ⟨da, hda⟩ : ∃ da : Nat, (da : Int) = a2 % 100 := ⟨(a2 % 100).toNat, by omega⟩
          rw [← hda]
          obtain ⟨w1, w2, w3⟩ := dy_now (D := Dc) (E := Dm) hR ⟨fun _ _ _ _ _ _ => rfl, fun _ _ _ _ _ => rfl⟩ rfl
          have w1' : dy_o (wf_o Dc (Dc 59)) Dm (td_cpy Dc 6 0 22 0 30) (cp_o Dm 4 21 0 30) := ⟨fun r r1 r2 r3 r4 r5 => by
            by_cases z : r = 59
            · rw [z, wf_at]
              exact tc_row (by decide)
            · rw [wf_ne z]
              exact w1.1 r r1 r2 r3 r4 r5, w1.2⟩
          obtain ⟨D', E', g', F, b1, b2, b3, b4, -, b6, b7⟩ := lk_fd (da := da) hR (by omega) tf_N 0 _ _ _ (by omega) (by unfold tf_N; omega) w1' w3 w2
          have f1 : F_X11_foreseeMonth (da : Int) Dc = some (0, D') := by
            unfold F_X11_foreseeMonth
            rw [fe_now, td_bs]
            exact b1
          rw [f1]
          simp only [tb_s]
          have D'59 : D' 59 = g' := (b2.1 59 (by decide) (by decide) (by decide) (by decide) (by decide)).trans wf_at
          refine lk_R (Dc := wf_o Dc g') ?_ (wf_R hR)
          exact lk_months (F := F) hR hda rfl (by omega) j2 (by omega) c1.2 ((b2.1 2 (by decide) (by decide) (by decide) (by decide) (by decide)).trans (wf_ne (by decide))) ((b2.1 4 (by decide) (by decide) (by decide) (by decide) (by decide)).trans (wf_ne (by decide))) (fun e h y1 y2 => by rw [D'59]; exact b6 e h (by omega) y1 y2) (fun e y1 => b7 e (by omega) y1) (fun E fE => by
            rw [b4]
            exact (dy_now (D := Dc) (E := E) hR ⟨fun _ _ _ _ _ _ => rfl, fE⟩ rfl).2.2) (dy_fc b2 (b3.trans (wf_ne (by decide)).symm)) tf_N 0 a1 0 0 Dm (by omega) (by omega) (by unfold tf_N; omega) tv_in0 tv_in0 (fun _ _ _ _ _ => rfl)
        · simp only [if_pos c3]
          by_cases c4 : a3 < 0
          · simp only [if_pos c4]
            exact lk_R (lk_0 rfl) hR
          · simp only [if_neg c4, if_neg (show ¬ a3 ≤ 1 by omega)]
            exact lk_R (lk_0 rfl) hR
      · simp only [if_pos c2]
        by_cases c4 : a2 % 100 < 1
        · simp only [if_pos c4]
          exact lk_R (lk_0 rfl) hR
        · simp only [if_neg c4, if_neg (show ¬ a2 % 100 ≤ 30 by omega)]
          exact lk_R (lk_0 rfl) hR
    · simp only [if_pos c1]
      by_cases c4 : a2 / 100 < 1
      · simp only [if_pos c4]
        exact lk_R (lk_0 rfl) hR
      · simp only [if_neg c4, if_pos (show 30 < a2 / 100 by omega)]
        exact lk_R (lk_0 rfl) hR
