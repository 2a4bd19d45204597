theorem ch_R {w n x : Int} {Dc Dm : td_D} (rl : rs_l Dc Dm) (ro : rs_o Dc Dm) (ch : p_ch (Dc 2 0) (Dc 2 1) (Dc 2 2) w n x) (hle : ∀ i : Nat, i < 10 → (td_upd Dc (ch_r w) (ch_j w n) x) 7 i ≤ (td_upd Dc (ch_r w) (ch_j w n) x) 8 i)
    (U : p_chg (Dc 2 0) (Dc 2 1) (Dc 2 2) (td_upd Dc (ch_r w) (ch_j w n) x 7) (td_upd Dc (ch_r w) (ch_j w n) x 8) (Dc 32 4) (Dc 32 5) (Dc 33) (Dc 34) (Dc 35) (Dc 36) (Dm 1 11) (Dm 1 12) (Dm 9) (Dm 10) (Dm 11) (Dm 12)) : lw_R (td_upd Dc (ch_r w) (ch_j w n) x) (td_upd Dm (cm_r w) (cm_j w n) x) := by
  have K := ch_78 (D := Dc) ch 0
  have M := cm_fr (D := Dm) ch
  refine rs_iff.mpr ⟨rs_l_ch rl ch hle, ?_, rs_o_ch ro ch⟩
  unfold rs_c
  rw [K.2.2.1, K.2.2.2.1, K.2.2.2.2.1, K.2.2.2.2.2 32 (by omega), K.2.2.2.2.2 33 (by omega), K.2.2.2.2.2 34 (by omega), K.2.2.2.2.2 35 (by omega), K.2.2.2.2.2 36 (by omega), M 1 (by omega), M 9 (by omega), M 10 (by omega), M 11 (by omega), M 12 (by omega)]
  exact U
theorem fe_forget {D : td_D} : F_X0_forgetOldest D = some (0, td_cpy (td_cpy (td_cpy (td_cpy (td_upd D 32 5 39) 33 1 33 0 39) 34 1 34 0 39) 35 1 35 0 39) 36 1 36 0 39) := rfl
theorem fe_note13 {n w was x : Int} {D : td_D} (h : 0 ≤ D 32 5) (h2 : D 32 5 < 40) : F_X0_note_13 n w was x D = some (0, td_upd (td_upd (td_upd (td_upd (td_upd (td_upd D 33 (D 32 5).toNat n) 34 (D 32 5).toNat w) 35 (D 32 5).toNat was) 36 (D 32 5).toNat x) 32 5 (D 32 5 + 1)) 32 4 (D 32 5 + 1)) := by
  unfold F_X0_note_13
  simp (disch := decide) only [td_ls, tu_row, tu_at, tu_same, tu_ne]
  have hq : 0 ≤ D 32 5 ∧ D 32 5 < ((40 : Nat) : Int) := by omega
  simp only [if_pos hq]
  rw [tw_s (a := D 32 5 + 1) (by omega) (by omega)]
theorem fm_121 {w n was x : Int} {D : td_D} (h : 0 ≤ D 1 11) (h2 : D 1 11 < 40) : F_X12_changes_121 w n x was D = td_b (F_X12_lays w n x (td_upd (td_upd (td_upd (td_upd (td_upd D 9 (D 1 11).toNat w) 10 (D 1 11).toNat n) 11 (D 1 11).toNat was) 12 (D 1 11).toNat x) 1 11 (D 1 11 + 1))) fun _ D11 => some (was, D11) := by
  unfold F_X12_changes_121
  simp (disch := decide) only [td_ls, tu_row, tu_at, tu_same, tu_ne]
  have hq : 0 ≤ D 1 11 ∧ D 1 11 < ((40 : Nat) : Int) := by omega
  simp only [if_pos hq]
  rw [tw_s (a := D 1 11 + 1) (by omega) (by omega)]
theorem fm_34 {w n x was : Int} : ∀ (m : Nat) (v5 : Int) (D : td_D), 1 ≤ v5 → v5 ≤ 40 → 40 - v5 < m → ∃ D' : td_D, F_X12_changes_34 m w n x was v5 D = F_X12_changes_121 w n x was (td_upd D' 1 11 (tv_w (D 1 11 - 1))) ∧ (∀ r : Nat, ¬ (9 ≤ r ∧ r ≤ 12) → D' r = D r) ∧ ∀ r : Nat, 9 ≤ r → r ≤ 12 → ∀ i : Nat, D' r i = if v5 - 1 ≤ (i : Int) ∧ i < 39 then D r (i + 1) else D r i := by
  intro m
  induction m with
  | zero => intro v5 D h1 h2 h3; omega
  | succ m ih =>
    intro v5 D h1 h2 h3
    unfold F_X12_changes_34
    by_cases c : 40 ≤ v5
    · rw [if_pos c, td_ls]
      refine ⟨D, rfl, fun _ _ => rfl, fun r _ _ i => ?_⟩
      rw [if_neg (by omega)]
    · rw [if_neg c, tw_s (a := v5 - 1) (by omega) (by omega), tw_s (a := v5 + 1) (by omega) (by omega), if_pos (by omega), if_pos (by omega)]
      simp (disch := decide) only [td_ls, tu_row]
      obtain ⟨D', e1, e2, e3⟩ := ih (v5 + 1) (td_upd (td_upd (td_upd (td_upd D 9 (v5 - 1).toNat (D 9 v5.toNat)) 10 (v5 - 1).toNat (D 10 v5.toNat)) 11 (v5 - 1).toNat (D 11 v5.toNat)) 12 (v5 - 1).toNat (D 12 v5.toNat)) (by omega) (by omega) (by omega)
      refine ⟨D', ?_, fun r hr => ?_, fun r hr hr2 i => ?_⟩
      · rw [e1]
        simp (disch := decide) only [td_ls, tu_row]
      · rw [e2 r hr, tu_row (by omega), tu_row (by omega), tu_row (by omega), tu_row (by omega)]
      · have q : (td_upd (td_upd (td_upd (td_upd D 9 (v5 - 1).toNat (D 9 v5.toNat)) 10 (v5 - 1).toNat (D 10 v5.toNat)) 11 (v5 - 1).toNat (D 11 v5.toNat)) 12 (v5 - 1).toNat (D 12 v5.toNat)) r = tv_up (D r) (v5 - 1).toNat (D r v5.toNat) := by
          have r4 : r = 9 ∨ r = 10 ∨ r = 11 ∨ r = 12 := by omega
          rcases r4 with rfl | rfl | rfl | rfl <;> simp (disch := decide) only [tu_row, tu_at]
        rw [e3 r hr hr2 i, q]
        unfold tv_up
        by_cases c1 : v5 + 1 - 1 ≤ (i : Int) ∧ i < 39
        · rw [if_pos c1, if_neg (by omega), if_pos (by omega)]
        · rw [if_neg c1]
          by_cases c2 : i = (v5 - 1).toNat
          · rw [if_pos c2, if_pos (by omega)]
            congr 1
            omega
          · rw [if_neg c2, if_neg (by omega)]
/-- mend -/
theorem st_4 : ls_4 lw_R := by
  intro a1 a2 a3 Dc Dm h1 _ _ _ hR
  obtain ⟨rl, rc, ro⟩ := rs_iff.mp hR
  obtain ⟨⟨⟨l1, l1a, l1b⟩, ⟨l2, l2a, l2b⟩, ⟨l3, l3a, l3b⟩, lon, lce, lsh, lz, lnd, lmo, lwo, lnm⟩, -⟩ := id rl
  obtain ⟨⟨s1, s2, s3, s4, s5⟩, -, -⟩ := id rc
  unfold F_X11_mend F_X12_mend
  rcases one_of (w := a2) rl h1 with ⟨v, v0, e1, e2, e3, c1, e4⟩ | ⟨e1, e2⟩
  · rw [e1, td_bs, if_neg (by omega), e2, td_bs, if_neg (by decide)]
    rcases may_of (x := a3) rl c1 with ⟨g1, g2⟩ | ⟨g1, g2, c2, m3, m4⟩
    · rw [g1, g2, td_bs, td_bs, if_pos rfl, if_pos rfl]
      exact lw_rt rfl hR
    · rw [g1, g2, td_bs, td_bs]
      simp only [if_neg (show ¬ (1 : Int) = 0 by decide)]
      unfold F_X12_changes
      rw [e3, td_bs]
      by_cases cv : a3 = v
      · rw [if_pos cv, if_pos cv.symm, td_bs]
        exact lw_rt rfl hR
      · rw [if_neg cv, if_neg (Ne.symm cv), td_ls]
        have w3 : a2 = 3 → Dc 7 a1.toNat = v := fun q => by subst q; exact e4
        have w4 : a2 = 4 → Dc 8 a1.toNat = v := fun q => by subst q; exact e4
        unfold F_X0_note
        have hle : ∀ (D : td_D), D 7 = Dc 7 → D 8 = Dc 8 → ∀ i : Nat, i < 10 → (td_upd D (ch_r a2) (ch_j a2 a1) a3) 7 i ≤ (td_upd D (ch_r a2) (ch_j a2 a1) a3) 8 i := by
          intro D d7 d8 i hi
          have K := ch_78 (D := D) c2 i
          rw [K.1, K.2.1, d7, d8]
          have b := lnm i hi
          by_cases q3 : a2 = 3 ∧ i = a1.toNat
          · rw [if_pos q3, if_neg (by omega), q3.2]
            exact m3 q3.1
          · rw [if_neg q3]
            by_cases q4 : a2 = 4 ∧ i = a1.toNat
            · rw [if_pos q4, q4.2]
              exact m4 q4.1
            · rw [if_neg q4]
              exact b
        by_cases c40 : Dc 32 5 < 40
        · rw [if_pos c40, fe_note13 s3 c40, td_bs, fe_change c2 l1b l2b l3b, td_bs]
          have dn : td_upd Dm 1 12 0 1 11 = Dc 32 5 := by
            rw [tu_at, tu_ne (by decide)]
            exact s1
          rw [if_neg (by rw [dn]; omega), fm_121 (by rw [dn]; omega) (by rw [dn]; omega), dn, fm_lays c2 l1b l2b l3b, td_bs, td_bs]
          have U := p_chg_note (nd' := td_upd (td_upd (td_upd (td_upd (td_upd (td_upd (td_upd Dc 33 (Dc 32 5).toNat a1) 34 (Dc 32 5).toNat a2) 35 (Dc 32 5).toNat v) 36 (Dc 32 5).toNat a3) 32 5 (Dc 32 5 + 1)) 32 4 (Dc 32 5 + 1)) (ch_r a2) (ch_j a2 a1) a3 7) (mo' := td_upd (td_upd (td_upd (td_upd (td_upd (td_upd (td_upd Dc 33 (Dc 32 5).toNat a1) 34 (Dc 32 5).toNat a2) 35 (Dc 32 5).toNat v) 36 (Dc 32 5).toNat a3) 32 5 (Dc 32 5 + 1)) 32 4 (Dc 32 5 + 1)) (ch_r a2) (ch_j a2 a1) a3 8) c40 l3b (p_chg_cut rc) c1 c2 (fun i hi => by
            rw [(ch_78 c2 i).1]
            simp (disch := decide) only [tu_row]) (fun i hi => by
            rw [(ch_78 c2 i).2.1]
            simp (disch := decide) only [tu_row]) w3 w4 (hle _ (by simp (disch := decide) only [tu_row]) (by simp (disch := decide) only [tu_row]))
          refine lw_rt rfl (ch_R ?_ ?_ ?_ (hle _ ?_ ?_) ?_)
          · unfold rs_l at *
            simp (disch := decide) only [tu_row, tu_at, tu_same, tu_ne]
            exact rl
          · unfold rs_o at *
            simp (disch := decide) only [tu_row, tu_at, tu_same, tu_ne]
            exact ro
          · simp (disch := decide) only [tu_row, tu_at, tu_same, tu_ne]
            exact c2
          · simp (disch := decide) only [tu_row]
          · simp (disch := decide) only [tu_row]
          · revert U
            generalize td_upd (td_upd (td_upd (td_upd (td_upd (td_upd (td_upd Dc 33 (Dc 32 5).toNat a1) 34 (Dc 32 5).toNat a2) 35 (Dc 32 5).toNat v) 36 (Dc 32 5).toNat a3) 32 5 (Dc 32 5 + 1)) 32 4 (Dc 32 5 + 1)) (ch_r a2) (ch_j a2 a1) a3 = X
            intro U
            rw [s1] at U
            simp (disch := decide) only [tu_row, tu_at, tu_same, tu_ne]
            exact U
        · have d40 : Dc 32 5 = 40 := by omega
          rw [if_neg c40, fe_forget, td_bs]
          have dn : td_upd Dm 1 12 0 1 11 = 40 := by
            rw [tu_at, tu_ne (by decide)]
            omega
          rw [if_pos dn]
          obtain ⟨D', f1, f2, f3⟩ := fm_34 (w := a2) (n := a1) (x := a3) (was := v) tf_N 1 (td_upd Dm 1 12 0) (by omega) (by omega) (by unfold tf_N; omega)
          rw [f1, dn, show tv_w (40 - 1) = 39 from by decide]
          generalize hX0 : td_cpy (td_cpy (td_cpy (td_cpy (td_upd Dc 32 5 39) 33 1 33 0 39) 34 1 34 0 39) 35 1 35 0 39) 36 1 36 0 39 = X0
          have x5 : X0 32 5 = 39 := by
            rw [← hX0]
            simp (disch := decide) only [tc_row, tu_row, tu_at, tu_same, tu_ne]
          have x33 : X0 33 = sh_1 (Dc 33) := by
            rw [← hX0]
            simp (disch := decide) only [tc_row, tc_39, tu_row]
          have x34 : X0 34 = sh_1 (Dc 34) := by
            rw [← hX0]
            simp (disch := decide) only [tc_row, tc_39, tu_row]
          have x35 : X0 35 = sh_1 (Dc 35) := by
            rw [← hX0]
            simp (disch := decide) only [tc_row, tc_39, tu_row]
          have x36 : X0 36 = sh_1 (Dc 36) := by
            rw [← hX0]
            simp (disch := decide) only [tc_row, tc_39, tu_row]
          have xo : ∀ r : Nat, ¬ (32 ≤ r ∧ r ≤ 36) → X0 r = Dc r := fun r hr => by
            rw [← hX0, tc_row (by omega), tc_row (by omega), tc_row (by omega), tc_row (by omega), tu_row (by omega)]
          clear hX0
          generalize hY0 : td_upd D' 1 11 39 = Y0
          have y11 : Y0 1 11 = 39 := by
            rw [← hY0]
            simp (disch := decide) only [tu_row, tu_at, tu_same, tu_ne]
          have d1 : D' 1 = td_upd Dm 1 12 0 1 := f2 1 (by omega)
          have yo : ∀ r : Nat, r ≠ 1 → ¬ (9 ≤ r ∧ r ≤ 12) → Y0 r = Dm r := fun r h1 hr => by
            rw [← hY0, tu_row h1, f2 r hr, tu_row h1]
          have y1 : ∀ j : Nat, j ≠ 11 → j ≠ 12 → Y0 1 j = Dm 1 j := fun j h1 h2 => by
            rw [← hY0, tu_at, tu_ne h1, d1, tu_at, tu_ne h2]
          have yr : ∀ r : Nat, 9 ≤ r → r ≤ 12 → ∀ k : Nat, k < 39 → Y0 r k = Dm r (k + 1) := fun r h1 h2 k hk => by
            rw [← hY0, tu_row (by omega), f3 r h1 h2 k, if_pos (by omega), tu_row (by omega)]
          have y12 : Y0 1 12 = 0 := by
            rw [← hY0, tu_at, tu_ne (by decide), d1, tu_at, tu_same]
          clear hY0
          rw [fe_note13 (by omega) (by omega), td_bs, fe_change c2 l1b l2b l3b, td_bs, fm_121 (by omega) (by omega), fm_lays c2 l1b l2b l3b, td_bs, td_bs, x5, y11]
          have dd := p_chg_drop d40 rc (yr 9 (by omega) (by omega)) (yr 10 (by omega) (by omega)) (yr 11 (by omega) (by omega)) (yr 12 (by omega) (by omega))
          have z7 := xo 7 (by omega)
          have z8 := xo 8 (by omega)
          have z2 := xo 2 (by omega)
          have U := p_chg_note (nd' := td_upd (td_upd (td_upd (td_upd (td_upd (td_upd (td_upd X0 33 (Int.toNat 39) a1) 34 (Int.toNat 39) a2) 35 (Int.toNat 39) v) 36 (Int.toNat 39) a3) 32 5 (39 + 1)) 32 4 (39 + 1)) (ch_r a2) (ch_j a2 a1) a3 7) (mo' := td_upd (td_upd (td_upd (td_upd (td_upd (td_upd (td_upd X0 33 (Int.toNat 39) a1) 34 (Int.toNat 39) a2) 35 (Int.toNat 39) v) 36 (Int.toNat 39) a3) 32 5 (39 + 1)) 32 4 (39 + 1)) (ch_r a2) (ch_j a2 a1) a3 8) (by omega) l3b dd c1 c2 (fun i hi => by
            rw [(ch_78 c2 i).1]
            simp (disch := decide) only [tu_row, z7]) (fun i hi => by
            rw [(ch_78 c2 i).2.1]
            simp (disch := decide) only [tu_row, z8]) w3 w4 (hle _ (by simp (disch := decide) only [tu_row, z7]) (by simp (disch := decide) only [tu_row, z8]))
          refine lw_rt rfl (ch_R ?_ ?_ ?_ (hle _ ?_ ?_) ?_)
          · unfold rs_l at *
            simp (disch := decide) only [tu_row, tu_at, tu_same, tu_ne]
            simp (disch := decide) only [xo, yo, y1]
            exact rl
          · unfold rs_o at *
            simp (disch := decide) only [tu_row, tu_at, tu_same, tu_ne]
            simp (disch := decide) only [xo, yo, y1]
            exact ro
          · simp (disch := decide) only [tu_row, tu_at, tu_same, tu_ne, z2]
            exact c2
          · simp (disch := decide) only [tu_row, z7]
          · simp (disch := decide) only [tu_row, z8]
          · revert U
            generalize td_upd (td_upd (td_upd (td_upd (td_upd (td_upd (td_upd X0 33 (Int.toNat 39) a1) 34 (Int.toNat 39) a2) 35 (Int.toNat 39) v) 36 (Int.toNat 39) a3) 32 5 (39 + 1)) 32 4 (39 + 1)) (ch_r a2) (ch_j a2 a1) a3 = X
            intro U
            simp (disch := decide) only [tu_row, tu_at, tu_same, tu_ne, z2, y12, x33, x34, x35, x36]
            exact U
  · rw [e1, td_bs, if_pos rfl, e2, td_bs, if_pos rfl]
    exact lw_rt rfl hR
