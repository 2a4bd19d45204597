theorem lw_mv {Dc Dm Dc' Dm' : td_D} (hR : lw_R Dc Dm) (c : ∀ r : Nat, r ≠ 3 → r ≠ 6 → r ≠ 42 → Dc' r = Dc r) (m : ∀ r : Nat, r ≠ 2 → r ≠ 4 → r ≠ 31 → Dm' r = Dm r) (on : ∀ i : Nat, i < 6 → Dm' 2 i = Dc' 3 i ∧ 0 ≤ Dc' 3 i ∧ Dc' 3 i ≤ 99) (sh : ∀ i : Nat, i < 30 → Dm' 4 i = Dc' 6 i ∧ 0 ≤ Dc' 6 i ∧ Dc' 6 i ≤ 99) (z : ∀ h p : Nat, h < 5 → p < 6 → (Dc 2 1 ≤ (h : Int) ∨ Dc 2 0 ≤ (p : Int)) → Dc' 6 (6 * h + p) = 0) (led : ∀ i : Nat, i < 6 → Dm' 31 i = Dc' 42 i) : lw_R Dc' Dm' := by
  obtain ⟨⟨l1, l2, l3, lon, lce, lsh, lz, lnd, lmo, lwo, lnm⟩, hs, ht, hw, hc, hg, hi, hb, hh⟩ := id hR
  unfold lw_R
  simp (disch := decide) only [c, m]
  exact ⟨⟨l1, l2, l3, on, lce, sh, z, lnd, lmo, lwo, lnm⟩, hs, ht, hw, hc, led, hi, hb, hh⟩
theorem up_led {n : Nat} {f g : Nat → Int} {v v2 : Int} {j : Nat} (h : ∀ i : Nat, i < n → g i = f i) (h1 : v2 = v) : ∀ i : Nat, i < n → tv_up g j v2 i = tv_up f j v i := by
  intro i hi
  unfold tv_up
  split
  · exact h1
  · exact h i hi
/-- takes -/
theorem st_25 : ls_25 lw_R := by
  intro a1 a2 Dc Dm h1 _ _ hR
  obtain ⟨⟨⟨l1, l1a, l1b⟩, ⟨l2, l2a, l2b⟩, ⟨l3, l3a, l3b⟩, lon, lce, lsh, lz, lnd, lmo, lwo, lnm⟩, hs, ht, hw, hc, hg, -⟩ := id hR
  unfold F_X11_takes F_X12_takes
  rw [fe_isShare h1, fm_areHis h1 (by omega) (by omega), l1, l2]
  simp only [td_bs, tf_0, fm_in]
  by_cases c : 0 ≤ a1 ∧ a1 / 10 < Dc 2 1 ∧ a1 % 10 < Dc 2 0
  · by_cases c2 : 1 ≤ a2 ∧ a2 ≤ 99
    · have h2 := h1.2
      have b1 := lsh (6 * (a1 / 10) + a1 % 10).toNat (by omega)
      have b2 := lon (a1 % 10).toNat (by omega)
      have g0 := hg (Int.toNat 0) (by decide)
      simp (disch := omega) only [if_pos, if_neg, tv_dv, tv_rme, fe_share, td_bs, tr_5, tw_s, fe_lay, b1.1, b2.1]
      by_cases c3 : Dc 6 (6 * (a1 / 10) + a1 % 10).toNat < a2
      · simp (disch := omega) only [if_pos, if_neg]
        exact lw_rt rfl hR
      · by_cases c4 : 99 < Dc 3 (a1 % 10).toNat + a2
        · simp (disch := omega) only [if_pos, if_neg]
          exact lw_rt rfl hR
        · simp (disch := omega) only [if_pos, if_neg, td_ls, td_bs]
          simp (disch := decide) only [tu_row, tu_at, tu_same, tu_ne]
          rw [b2.1, g0, tw_s (by omega) (by omega)]
          refine lw_rt rfl (lw_mv hR (fun r x1 x2 x3 => by rw [tu_row x3, tu_row x1, tu_row x2]) (fun r x1 x2 x3 => by rw [tu_row x3, tu_row x1, tu_row x2]) ?_ ?_ ?_ ?_) <;> simp (disch := decide) only [tu_row, tu_at, tu_same, tu_ne]
          · exact up_row lon (by omega) (by omega)
          · exact up_row lsh (by omega) (by omega)
          · intro h' p' x1 x2 x3
            rw [tu_ne (by omega)]
            exact lz h' p' x1 x2 x3
          · exact up_led hg rfl
    · simp (disch := omega) only [if_pos, if_neg]
      by_cases c3 : a2 < 1 <;> simp (disch := omega) only [if_pos, if_neg] <;> exact lw_rt rfl hR
  · simp only [if_pos c]
    exact lw_rt rfl hR
/-- puts -/
theorem st_26 : ls_26 lw_R := by
  intro a1 a2 Dc Dm h1 _ _ hR
  obtain ⟨⟨⟨l1, l1a, l1b⟩, ⟨l2, l2a, l2b⟩, ⟨l3, l3a, l3b⟩, lon, lce, lsh, lz, lnd, lmo, lwo, lnm⟩, hs, ht, hw, hc, hg, -⟩ := id hR
  unfold F_X11_puts F_X12_puts
  rw [fe_isShare h1, fm_areHis h1 (by omega) (by omega), l1, l2]
  simp only [td_bs, tf_0, fm_in]
  by_cases c : 0 ≤ a1 ∧ a1 / 10 < Dc 2 1 ∧ a1 % 10 < Dc 2 0
  · by_cases c2 : 1 ≤ a2 ∧ a2 ≤ 99
    · have h2 := h1.2
      have b1 := lsh (6 * (a1 / 10) + a1 % 10).toNat (by omega)
      have b2 := lon (a1 % 10).toNat (by omega)
      have g0 := hg (Int.toNat 1) (by decide)
      simp (disch := omega) only [if_pos, if_neg, tv_dv, tv_rme, fe_share, td_bs, tr_5, tw_s, fe_lay, b1.1, b2.1]
      by_cases c3 : Dc 3 (a1 % 10).toNat < a2
      · simp (disch := omega) only [if_pos, if_neg]
        exact lw_rt rfl hR
      · by_cases c4 : 99 < Dc 6 (6 * (a1 / 10) + a1 % 10).toNat + a2
        · simp (disch := omega) only [if_pos, if_neg]
          exact lw_rt rfl hR
        · simp (disch := omega) only [if_pos, if_neg, td_ls, td_bs]
          simp (disch := decide) only [tu_row, tu_at, tu_same, tu_ne]
          rw [b2.1, g0, tw_s (a := Dc 3 (a1 % 10).toNat - a2) (by omega) (by omega)]
          refine lw_rt rfl (lw_mv hR (fun r x1 x2 x3 => by rw [tu_row x3, tu_row x1, tu_row x2]) (fun r x1 x2 x3 => by rw [tu_row x3, tu_row x1, tu_row x2]) ?_ ?_ ?_ ?_) <;> simp (disch := decide) only [tu_row, tu_at, tu_same, tu_ne]
          · exact up_row lon (by omega) (by omega)
          · exact up_row lsh (by omega) (by omega)
          · intro h' p' x1 x2 x3
            rw [tu_ne (by omega)]
            exact lz h' p' x1 x2 x3
          · exact up_led hg rfl
    · simp (disch := omega) only [if_pos, if_neg]
      by_cases c3 : a2 < 1 <;> simp (disch := omega) only [if_pos, if_neg] <;> exact lw_rt rfl hR
  · simp only [if_pos c]
    exact lw_rt rfl hR
/-- does -/
theorem st_28 : ls_28 lw_R := by
  intro a1 Dc Dm h1 _ hR
  obtain ⟨⟨⟨l1, l1a, l1b⟩, ⟨l2, l2a, l2b⟩, ⟨l3, l3a, l3b⟩, lon, lce, lsh, lz, lnd, lmo, lwo, lnm⟩, hs, ht, hw, hc, hg, -⟩ := id hR
  unfold F_X11_does F_X12_does
  by_cases c0 : a1 < 0
  · simp only [if_pos c0]
    exact lw_rt rfl hR
  have h2 := h1.2
  simp only [if_neg c0, fe_isDeed, fe_isPerson, fm_isDeed _ (show 0 ≤ Dm 1 6 ∧ Dm 1 6 ≤ 10 by omega), fm_isPerson _ (show 0 ≤ Dm 1 1 ∧ Dm 1 1 ≤ 6 by omega), td_bs, tf_0, l1, l3]
  simp (disch := omega) only [tv_dv, tv_rme]
  by_cases c1 : 0 ≤ a1 / 10 ∧ a1 / 10 < Dc 2 2
  · by_cases c2 : 0 ≤ a1 % 10 ∧ a1 % 10 < Dc 2 0
    · unfold F_X3_mayDo F_X12_mayDo
      have b2 := lon (a1 % 10).toNat (by omega)
      have b7 := lnd (a1 / 10).toNat (by omega)
      have b8 := lmo (a1 / 10).toNat (by omega)
      have b9 := lwo (a1 / 10).toNat (by omega)
      have g3 := hg (Int.toNat 3) (by decide)
      have g4 := hg (Int.toNat 4) (by decide)
      simp (disch := omega) only [if_pos, if_neg, b2.1, b7.1, b8.1]
      by_cases c3 : Dc 7 (a1 / 10).toNat ≤ Dc 3 (a1 % 10).toNat ∧ Dc 3 (a1 % 10).toNat ≤ Dc 8 (a1 / 10).toNat
      · simp (disch := omega) only [if_pos, if_neg, td_bs, td_ls]
        simp (disch := decide) only [tu_row, tu_at, tu_same, tu_ne, if_neg]
        rw [b2.1, b7.1, b9.1, g3, g4]
        simp (disch := omega) only [tv_dv, tw_s (a := Dc 3 (a1 % 10).toNat - Dc 7 (a1 / 10).toNat / 2)]
        refine lw_rt rfl (lw_mv hR (fun r x1 x2 x3 => by rw [tu_row x3, tu_row x3, tu_row x1]) (fun r x1 x2 x3 => by rw [tu_row x3, tu_row x3, tu_row x1]) ?_ ?_ ?_ ?_) <;> simp (disch := decide) only [tu_row, tu_at, tu_same, tu_ne]
        · exact up_row lon (by omega) (by omega)
        · exact lsh
        · exact lz
        · exact up_led (up_led hg rfl) rfl
      · by_cases c4 : Dc 3 (a1 % 10).toNat < Dc 7 (a1 / 10).toNat
        · simp (disch := omega) only [if_pos, if_neg, td_bs]
          simp only [if_true]
          exact lw_rt rfl hR
        · simp (disch := omega) only [if_pos, if_neg, td_bs]
          simp only [if_true]
          exact lw_rt rfl hR
    · simp (disch := omega) only [if_pos, if_neg]
      exact lw_rt rfl hR
  · simp only [if_pos c1]
    exact lw_rt rfl hR
