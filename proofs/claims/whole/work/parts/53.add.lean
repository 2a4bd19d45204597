theorem tu_id {D : td_D} {r j : Nat} {v : Int} (h : D r j = v) : td_upd D r j v = D := by
  funext r' j'
  show (if _ then _ else _) = _
  split
  · rename_i hq; rw [hq.1, hq.2, h]
  · rfl
theorem p_ch_mono {pe hi de pe2 hi2 de2 w n v : Int} (h1 : pe ≤ pe2) (h2 : hi ≤ hi2) (h3 : de ≤ de2) (h : p_ch pe hi de w n v) : p_ch pe2 hi2 de2 w n v := by
  unfold p_ch at *
  rcases h with h | h | h | h | h
  · exact Or.inl (by omega)
  · exact Or.inr (Or.inl ⟨h.1, h.2.1, by omega, by omega, h.2.2.2.2⟩)
  · exact Or.inr (Or.inr (Or.inl ⟨h.1, h.2.1, by omega, h.2.2.2⟩))
  · exact Or.inr (Or.inr (Or.inr (Or.inl ⟨h.1, h.2.1, by omega, h.2.2.2⟩)))
  · exact Or.inr (Or.inr (Or.inr (Or.inr h)))
theorem p_chg_mono {pe hi de pe2 hi2 de2 : Int} {nd mo : Nat → Int} {sz sd : Int} {nu wh wa be : Nat → Int} {dn un : Int} {of at' bf bh : Nat → Int} (h1 : pe ≤ pe2) (h2 : hi ≤ hi2) (h3 : de ≤ de2) (h : p_chg pe hi de nd mo sz sd nu wh wa be dn un of at' bf bh) : p_chg pe2 hi2 de2 nd mo sz sd nu wh wa be dn un of at' bf bh := by
  obtain ⟨a, b, c⟩ := h
  exact ⟨a, fun k hk => ⟨(b k hk).1, p_ch_mono h1 h2 h3 (b k hk).2.1, p_ch_mono h1 h2 h3 (b k hk).2.2⟩, c⟩
theorem p_img_mono {pe hi pe2 hi2 th ip : Int} {on sh le : Nat → Int} {th' ip' ih' : Int} {on' sh' le' : Nat → Int} (h1 : pe ≤ pe2) (h2 : hi ≤ hi2) (h : p_img pe hi th ip on sh le th' ip' ih' on' sh' le') : p_img pe2 hi2 th ip on sh le th' ip' ih' on' sh' le' := by
  obtain ⟨a, b, c⟩ := h
  refine ⟨a, b, fun q => ?_⟩
  obtain ⟨c1, c2, c3⟩ := c q
  exact ⟨by omega, by omega, c3⟩
theorem up_row {n : Nat} {f g : Nat → Int} {b v : Int} {j : Nat} (h : ∀ i : Nat, i < n → g i = f i ∧ 0 ≤ f i ∧ f i ≤ b) (h1 : 0 ≤ v) (h2 : v ≤ b) : ∀ i : Nat, i < n → tv_up g j v i = tv_up f j v i ∧ 0 ≤ tv_up f j v i ∧ tv_up f j v i ≤ b := by
  intro i hi
  unfold tv_up
  split
  · exact ⟨rfl, h1, h2⟩
  · exact h i hi
/-- the model's loop that empties what is empty -/
theorem fm_person_33 : ∀ (n : Nat) (v2 : Int) (D : td_D), 0 ≤ v2 → v2 ≤ 5 → 5 - v2 < n → 0 ≤ D 1 1 → D 1 1 < 6 → (∀ h : Nat, h < 5 → D 4 (6 * h + (D 1 1).toNat) = 0) → F_X12_person_33 n v2 D = some (D 1 1, td_upd D 1 1 (D 1 1 + 1)) := by
  intro n
  induction n with
  | zero => intro v2 D h1 h2 h3; omega
  | succ n ih =>
    intro v2 D h1 h2 h3 h4 h5 h6
    unfold F_X12_person_33
    by_cases hv : 5 ≤ v2
    · rw [if_pos hv, td_ls, tw_s (a := D 1 1 + 1) (by omega) (by omega)]
      have e : td_upd D 1 1 (D 1 1 + 1) 1 1 = D 1 1 + 1 := by simp [td_upd]
      rw [e, tw_s (by omega) (by omega)]
      congr 2
      omega
    · rw [if_neg hv, tw_s (a := 6 * v2) (by omega) (by omega), tw_s (a := 6 * v2 + D 1 1) (by omega) (by omega), if_pos (by omega), td_ls, tw_s (a := v2 + 1) (by omega) (by omega)]
      have e : D 4 (6 * v2 + D 1 1).toNat = 0 := by
        have h := h6 v2.toNat (by omega)
        rw [show 6 * v2.toNat + (D 1 1).toNat = (6 * v2 + D 1 1).toNat by omega] at h
        exact h
      rw [tu_id e]
      exact ih (v2 + 1) D (by omega) (by omega) (by omega) h4 h5 h6
theorem fm_hive_32 : ∀ (n : Nat) (v2 : Int) (D : td_D), 0 ≤ v2 → v2 ≤ 6 → 6 - v2 < n → 0 ≤ D 1 3 → D 1 3 < 5 → (∀ p : Nat, p < 6 → D 4 (6 * (D 1 3).toNat + p) = 0) → F_X12_hive_32 n v2 D = some (D 1 3, td_upd D 1 3 (D 1 3 + 1)) := by
  intro n
  induction n with
  | zero => intro v2 D h1 h2 h3; omega
  | succ n ih =>
    intro v2 D h1 h2 h3 h4 h5 h6
    unfold F_X12_hive_32
    by_cases hv : 6 ≤ v2
    · rw [if_pos hv, td_ls, tw_s (a := D 1 3 + 1) (by omega) (by omega)]
      have e : td_upd D 1 3 (D 1 3 + 1) 1 3 = D 1 3 + 1 := by simp [td_upd]
      rw [e, tw_s (by omega) (by omega)]
      congr 2
      omega
    · rw [if_neg hv, tw_s (a := 6 * D 1 3) (by omega) (by omega), tw_s (a := 6 * D 1 3 + v2) (by omega) (by omega), if_pos (by omega), td_ls, tw_s (a := v2 + 1) (by omega) (by omega)]
      have e : D 4 (6 * D 1 3 + v2).toNat = 0 := by
        have h := h6 v2.toNat (by omega)
        rw [show 6 * (D 1 3).toNat + v2.toNat = (6 * D 1 3 + v2).toNat by omega] at h
        exact h
      rw [tu_id e]
      exact ih (v2 + 1) D (by omega) (by omega) (by omega) h4 h5 h6
theorem fe_addPerson {a : Int} {D : td_D} (h : 0 ≤ D 2 0) (h2 : D 2 0 < 6) : F_X3_addPerson a D = some (D 2 0, td_upd (td_upd D 3 (D 2 0).toNat a) 2 0 (D 2 0 + 1)) := by
  unfold F_X3_addPerson
  rw [if_pos (by omega), td_ls, td_ls]
  simp (disch := decide) only [tu_row, tu_at, tu_same, tu_ne]
  rw [tw_s (a := D 2 0 + 1) (by omega) (by omega), tw_s (a := D 2 0 + 1 - 1) (by omega) (by omega)]
  congr 2
  omega
theorem fe_addHive {a : Int} {D : td_D} (h : 0 ≤ D 2 1) (h2 : D 2 1 < 5) : F_X3_addHive a D = some (D 2 1, td_upd (td_upd D 4 (D 2 1).toNat a) 2 1 (D 2 1 + 1)) := by
  unfold F_X3_addHive
  rw [if_pos (by omega), td_ls, td_ls]
  simp (disch := decide) only [tu_row, tu_at, tu_same, tu_ne]
  rw [tw_s (a := D 2 1 + 1) (by omega) (by omega), tw_s (a := D 2 1 + 1 - 1) (by omega) (by omega)]
  congr 2
  omega
/-- person -/
theorem st_0 : ls_0 lw_R := by
  intro a1 Dc Dm _ _ hR
  obtain ⟨⟨⟨l1, l1a, l1b⟩, ⟨l2, l2a, l2b⟩, ⟨l3, l3a, l3b⟩, lon, lce, lsh, lz, lnd, lmo, lwo, lnm⟩, hs, ht, hw, hc, hg, hi, hb, hh⟩ := id hR
  unfold F_X11_person F_X12_person
  simp only [fe_isTemper, fm_isMuch, td_bs, tf_0]
  by_cases hv : 0 ≤ a1 ∧ a1 ≤ 99
  · have hv' : ¬ ¬ (0 ≤ a1 ∧ a1 ≤ 99) := fun q => q hv
    simp only [if_neg hv']
    by_cases hp : Dc 2 0 < 6
    · rw [if_pos hp, fe_addPerson l1a hp, td_bs, if_neg (by omega), if_pos (by omega), td_ls]
      have e11 : td_upd Dm 2 (Dm 1 1).toNat a1 1 = Dm 1 := tu_row (by decide)
      have e4 : td_upd Dm 2 (Dm 1 1).toNat a1 4 = Dm 4 := tu_row (by decide)
      rw [fm_person_33 tf_N 0 _ (by omega) (by omega) (by unfold tf_N; omega) (by rw [e11]; omega) (by rw [e11]; omega) (fun h hh => by
        rw [e11, e4, l1, (lsh (6 * h + (Dc 2 0).toNat) (by omega)).1]
        exact lz h (Dc 2 0).toNat hh (by omega) (by omega)), e11, l1]
      refine lw_rt rfl ?_
      unfold lw_R
      simp (disch := decide) only [tu_row, tu_at, tu_same, tu_ne]
      refine ⟨⟨by omega, by omega, by omega, up_row lon hv.1 hv.2, lce, lsh, fun h p h1 h2 h3 => lz h p h1 h2 (by omega), lnd, lmo, lwo, lnm⟩, hs, ht, hw, p_chg_mono (by omega) (by omega) (by omega) hc, hg, p_img_mono (by omega) (by omega) hi, hb, hh⟩
    · rw [if_neg hp, if_pos (by omega)]
      exact lw_rt rfl hR
  · simp only [if_pos hv]
    exact lw_rt rfl hR
/-- hive -/
theorem st_1 : ls_1 lw_R := by
  intro a1 Dc Dm _ _ hR
  obtain ⟨⟨⟨l1, l1a, l1b⟩, ⟨l2, l2a, l2b⟩, ⟨l3, l3a, l3b⟩, lon, lce, lsh, lz, lnd, lmo, lwo, lnm⟩, hs, ht, hw, hc, hg, hi, hb, hh⟩ := id hR
  unfold F_X11_hive F_X12_hive
  simp only [fe_isCell, fm_isCell, td_bs, tf_0]
  by_cases hv : 0 ≤ a1 ∧ a1 ≤ 99
  · have hv' : ¬ ¬ (0 ≤ a1 ∧ a1 ≤ 99) := fun q => q hv
    simp only [if_neg hv']
    by_cases hp : Dc 2 1 < 5
    · rw [if_pos hp, fe_addHive l2a hp, td_bs, if_neg (by omega), if_pos (by omega), td_ls]
      have e11 : td_upd Dm 3 (Dm 1 3).toNat a1 1 = Dm 1 := tu_row (by decide)
      have e4 : td_upd Dm 3 (Dm 1 3).toNat a1 4 = Dm 4 := tu_row (by decide)
      rw [fm_hive_32 tf_N 0 _ (by omega) (by omega) (by unfold tf_N; omega) (by rw [e11]; omega) (by rw [e11]; omega) (fun p hp2 => by
        rw [e11, e4, l2, (lsh (6 * (Dc 2 1).toNat + p) (by omega)).1]
        exact lz (Dc 2 1).toNat p (by omega) hp2 (by omega)), e11, l2]
      refine lw_rt rfl ?_
      unfold lw_R
      simp (disch := decide) only [tu_row, tu_at, tu_same, tu_ne]
      refine ⟨⟨by omega, by omega, by omega, lon, up_row lce hv.1 hv.2, lsh, fun h p h1 h2 h3 => lz h p h1 h2 (by omega), lnd, lmo, lwo, lnm⟩, hs, ht, hw, p_chg_mono (by omega) (by omega) (by omega) hc, hg, p_img_mono (by omega) (by omega) hi, hb, hh⟩
    · rw [if_neg hp, if_pos (by omega)]
      exact lw_rt rfl hR
  · simp only [if_pos hv]
    exact lw_rt rfl hR
