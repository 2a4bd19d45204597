theorem p_chg_add {pe hi de : Int} {nd mo : Nat → Int} {sz sd : Int} {nu wh wa be : Nat → Int} {dn un : Int} {of at' bf bh : Nat → Int} {x y : Int} (h1 : 0 ≤ de) (h2 : x ≤ y) (h : p_chg pe hi de nd mo sz sd nu wh wa be dn un of at' bf bh) : p_chg pe hi (de + 1) (tv_up nd de.toNat x) (tv_up mo de.toNat y) sz sd nu wh wa be dn un of at' bf bh := by
  obtain ⟨a, b, V, v1, v2, v3⟩ := h
  refine ⟨a, fun k hk => ⟨(b k hk).1, p_ch_mono (Int.le_refl _) (Int.le_refl _) (by omega) (b k hk).2.1, p_ch_mono (Int.le_refl _) (Int.le_refl _) (by omega) (b k hk).2.2⟩, fun k t i => if i = de.toNat then (if t = 0 then x else y) else V k t i, fun i hi => ?_, fun k i hk hi => ?_, fun k hk => ⟨fun t i ht hi hq => ?_, fun t ht hq => ?_⟩⟩
  · unfold tv_up
    by_cases c : i = de.toNat
    · simp [c]
    · simp only [if_neg c]; exact v1 i hi
  · by_cases c : i = de.toNat
    · simp [c, h2]
    · simp only [if_neg c]; exact v2 k i hk hi
  · by_cases c : i = de.toNat
    · simp [c]
    · simp only [if_neg c]; exact (v3 k hk).1 t i ht hi hq
  · have c : ¬ (nu k).toNat = de.toNat := by
      have := (b k hk).2.1
      unfold p_ch at this
      omega
    simp only [if_neg c]
    exact (v3 k hk).2 t ht hq
theorem fe_addDeed {a b c : Int} {D : td_D} (h : 0 ≤ D 2 2) (h2 : D 2 2 < 10) : F_X3_addDeed a b c D = some (D 2 2, td_upd (td_upd (td_upd (td_upd D 7 (D 2 2).toNat a) 8 (D 2 2).toNat b) 9 (D 2 2).toNat c) 2 2 (D 2 2 + 1)) := by
  unfold F_X3_addDeed
  simp (disch := decide) only [td_ls, tu_row, tu_at, tu_same, tu_ne]
  have hq : 0 ≤ D 2 2 ∧ D 2 2 < ((10 : Nat) : Int) := by omega
  simp only [if_pos hq]
  rw [tw_s (a := D 2 2 + 1) (by omega) (by omega), tw_s (a := D 2 2 + 1 - 1) (by omega) (by omega)]
  congr 2
  omega
theorem fm_addDeed {a b c : Int} {D : td_D} (h : 0 ≤ D 1 6) (h2 : D 1 6 < 10) : F_X12_addDeed a b c D = some (D 1 6, td_upd (td_upd (td_upd (td_upd D 5 (D 1 6).toNat a) 6 (D 1 6).toNat b) 7 (D 1 6).toNat c) 1 6 (D 1 6 + 1)) := by
  unfold F_X12_addDeed
  simp (disch := decide) only [td_ls, tu_row, tu_at, tu_same, tu_ne]
  have hq : 0 ≤ D 1 6 ∧ D 1 6 < ((10 : Nat) : Int) := by omega
  simp only [if_pos hq]
  rw [tw_s (a := D 1 6 + 1) (by omega) (by omega), tw_s (a := D 1 6 + 1 - 1) (by omega) (by omega)]
  congr 2
  omega
theorem lw_addDeed {x y z : Int} {Dc Dm : td_D} (hR : lw_R Dc Dm) (h10 : Dc 2 2 < 10) (hx : 0 ≤ x ∧ x ≤ 99) (hy : 0 ≤ y ∧ y ≤ 99) (hz : 0 ≤ z ∧ z ≤ 99) (hxy : x ≤ y) : lw_R (td_upd (td_upd (td_upd (td_upd Dc 7 (Dc 2 2).toNat x) 8 (Dc 2 2).toNat y) 9 (Dc 2 2).toNat z) 2 2 (Dc 2 2 + 1)) (td_upd (td_upd (td_upd (td_upd Dm 5 (Dm 1 6).toNat x) 6 (Dm 1 6).toNat y) 7 (Dm 1 6).toNat z) 1 6 (Dm 1 6 + 1)) := by
  obtain ⟨⟨l1, l2, ⟨l3, l3a, l3b⟩, lon, lce, lsh, lz, lnd, lmo, lwo, lnm⟩, hs, ht, hw, hc, hg, hi, hb, hh⟩ := id hR
  rw [l3]
  unfold lw_R
  simp (disch := decide) only [tu_row, tu_at, tu_same, tu_ne]
  refine ⟨⟨l1, l2, by omega, lon, lce, lsh, lz, up_row lnd hx.1 hx.2, up_row lmo hy.1 hy.2, up_row lwo hz.1 hz.2, fun i hi => ?_⟩, hs, ht, hw, p_chg_add l3a hxy hc, hg, hi, hb, hh⟩
  unfold tv_up
  split
  · exact hxy
  · exact lnm i hi
/-- deed -/
theorem st_2 : ls_2 lw_R := by
  intro a1 a2 Dc Dm _ _ _ hR
  obtain ⟨⟨l1, l2, ⟨l3, l3a, l3b⟩, -⟩, -⟩ := id hR
  unfold F_X11_deed F_X12_deed
  simp only [fe_isDeedAs, fm_areDeed, td_bs, tf_0]
  by_cases hv : (0 ≤ a1 ∧ a1 ≤ 99) ∧ (0 ≤ a2 ∧ a2 ≤ 99) ∧ a1 ≤ a2
  · by_cases hp : Dc 2 2 < 10
    · simp (disch := omega) only [if_pos, if_neg, fe_addDeed, td_bs, fm_addDeed]
      exact lw_rt l3.symm (lw_addDeed hR hp hv.1 hv.2.1 (by omega) hv.2.2)
    · simp (disch := omega) only [if_pos, if_neg]
      exact lw_rt rfl hR
  · simp (disch := omega) only [if_pos, if_neg]
    exact lw_rt rfl hR
/-- feed -/
theorem st_6 : ls_6 lw_R := by
  intro a1 Dc Dm _ _ hR
  obtain ⟨hl, hs, ⟨⟨t1, t1a, t1b⟩, t2⟩, hw, hc, hg, hi, hb, hh⟩ := id hR
  unfold F_X11_feed F_X12_feed
  simp only [fm_in, td_bs, tf_0]
  by_cases hv : 0 ≤ a1 ∧ a1 ≤ 255
  · by_cases hp : Dc 10 1 < 120
    · unfold F_X9_add
      simp (disch := omega) only [if_pos, if_neg]
      simp (disch := decide) only [td_ls, td_bs, tu_row, tu_at, tu_same, tu_ne]
      rw [t1, tw_s (a := Dc 10 1 + 1) (by omega) (by omega)]
      refine lw_rt rfl ?_
      unfold lw_R
      simp (disch := decide) only [tu_row, tu_at, tu_same, tu_ne]
      refine ⟨hl, hs, ⟨by omega, fun i hi2 => ?_⟩, hw, hc, hg, hi, hb, hh⟩
      unfold tv_up
      by_cases c : i = (Dc 10 1).toNat
      · rw [if_pos c, if_pos c]
        refine ⟨?_, hv.1, hv.2⟩
        unfold tv_i2b
        omega
      · rw [if_neg c, if_neg c]
        exact t2 i (by omega)
    · simp (disch := omega) only [if_pos, if_neg]
      exact lw_rt rfl hR
  · rw [if_pos (show ¬ (0 ≤ a1 ∧ a1 ≤ 255) from hv)]
    (repeat' split) <;> first | (exfalso; omega) | exact lw_rt rfl hR
/-- body -/
theorem p_shelf_mono {n m : Int} {s : Nat} {o e ho si el : Nat → Int} (h : n ≤ m) (q : p_shelf n s o e ho si el) : p_shelf m s o e ho si el := by
  rcases q with q | q | q
  · exact Or.inl q
  · exact Or.inr (Or.inl ⟨q.1, by omega, q.2.2⟩)
  · exact Or.inr (Or.inr q)
theorem st_35 : ls_35 lw_R := by
  intro a1 Dc Dm _ _ hR
  obtain ⟨hl, hs, ht, hw, hc, hg, hi, ⟨⟨b1, b1a, b1b⟩, b2, b3, b4⟩, h0, h1, h2, h3, h4, h5⟩ := id hR
  unfold F_X11_body F_X12_body
  simp only [fe_isKind, fm_in, td_bs, tf_0]
  by_cases hv : 0 ≤ a1 ∧ a1 ≤ 7
  · by_cases hp : Dc 43 1 < 50
    · unfold F_X8_add
      simp (disch := omega) only [if_pos, if_neg]
      simp (disch := decide) only [td_ls, td_bs, tu_row, tu_at, tu_same, tu_ne]
      rw [b1, tw_s (a := Dc 43 1 + 1) (by omega) (by omega)]
      refine lw_rt rfl ?_
      unfold lw_R
      simp (disch := decide) only [tu_row, tu_at, tu_same, tu_ne]
      have m := fun (s : Nat) (o e ho si el : Nat → Int) => @p_shelf_mono (Dc 43 1) (Dc 43 1 + 1) s o e ho si el (by omega)
      refine ⟨hl, hs, ht, hw, hc, hg, hi, ⟨by omega, fun i hi2 => ?_, b3, b4⟩, m _ _ _ _ _ _ h0, m _ _ _ _ _ _ h1, m _ _ _ _ _ _ h2, m _ _ _ _ _ _ h3, m _ _ _ _ _ _ h4, m _ _ _ _ _ _ h5⟩
      unfold tv_up
      by_cases c : i = (Dc 43 1).toNat
      · rw [if_pos c, if_pos c]
        exact ⟨rfl, hv.1, hv.2⟩
      · rw [if_neg c, if_neg c]
        exact b2 i (by omega)
    · simp (disch := omega) only [if_pos, if_neg]
      exact lw_rt rfl hR
  · simp (disch := omega) only [if_pos, if_neg]
    exact lw_rt rfl hR
