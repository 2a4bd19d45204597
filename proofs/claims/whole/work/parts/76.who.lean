/-- who does a deed, by what others have -/
theorem lk_first {Dc Dm D E : td_D} (hR : lw_R Dc Dm) (fc : fr_c Dc D) (fm : fr_m Dm E) (hw : wt_o Dc D E (-1) 0) {k d u : Int} (d1 : 0 ≤ d) (d2 : d < Dc 2 2) (u1 : 0 ≤ u) (u2 : u < 64) (kk : Int → Int → Int → td_D → Option (Int × td_D)) : ∀ (m : Nat) (p : Int), 0 ≤ p → p ≤ Dc 2 0 → Dc 2 0 - p < m → (∀ q : Int, 0 ≤ q → q < p → ¬ (fb_o Dc d u q ∧ wb_o Dc (D 28) d u q = D 28 (64 * d + u).toNat)) → ∃ r : Int, F_X4_firstDoer_3 m d u p D = some (r, D) ∧ F_X12_who_43 kk m k u d p E = (if d = k then some (r, E) else kk k (if r = -2 then u else tv_or u (tv_shl 1 r)) (d + 1) E) ∧ (r = -2 ∨ (0 ≤ r ∧ r < Dc 2 0)) := by
  obtain ⟨⟨⟨l1, l1a, l1b⟩, ⟨l2, l2a, l2b⟩, ⟨l3, l3a, l3b⟩, lon, lce, lsh, lz, lnd, lmo, lwo, lnm⟩, -⟩ := id hR
  obtain ⟨-, h2, -, h4⟩ := hw
  have e11 : E 1 1 = Dc 2 0 := by rw [fm.2 1 rfl]; exact l1
  have d20 : D 2 0 = Dc 2 0 := by rw [fc.1 2 rfl]
  have W := fun (j : Nat) (a : 0 ≤ (j : Int)) (b : (j : Int) < 64 * (Dc 2 2 + 1)) => h2 j (by omega) b
  have bt := h4 d u (by omega) d2 u1 u2
  have w0 := W (64 * d + u).toNat (by omega) (by omega)
  have w9 := W (64 * (d + 1) + u).toNat (by omega) (by omega)
  have b9 := lwo d.toNat (by omega)
  unfold wr_o at w0 w9
  intro m
  induction m with
  | zero => intro p q1 q2 q3; omega
  | succ m ih =>
    intro p q1 q2 q3 none_
    unfold F_X4_firstDoer_3 F_X12_who_43
    rw [d20]
    by_cases c : Dc 2 0 ≤ p
    · have pe : p = Dc 2 0 := by omega
      have t1 : F_X12_mayTake d u p E = some (1, E) := by
        unfold F_X12_mayTake
        rw [if_pos (by omega)]
      have t2 : F_X12_worthBy d u p E = some (D 28 (64 * (d + 1) + u).toNat, E) := by
        unfold F_X12_worthBy
        rw [if_pos (by omega), tw_s (a := d + 1) (by omega) (by omega), tw_s (a := 64 * (d + 1)) (by omega) (by omega), tw_s (a := 64 * (d + 1) + u) (by omega) (by omega), if_pos (by omega), w9.1]
      have eq : D 28 (64 * (d + 1) + u).toNat = D 28 (64 * d + u).toNat := by
        rcases bt with bt | ⟨q, y1, y2, y3, y4⟩
        · exact bt.symm
        · exact (none_ q y1 (by rw [pe]; exact y2) ⟨y3, y4⟩).elim
      rw [if_pos c, t1, td_bs, if_neg (show ¬ (1 : Int) = 0 by decide), t2, td_bs, tw_s (a := 64 * d) (by omega) (by omega), tw_s (a := 64 * d + u) (by omega) (by omega), if_pos (by omega), w0.1, if_pos eq, e11, if_pos pe, if_pos c, tw_s (a := d + 1) (by omega) (by omega)]
      exact ⟨-2, rfl, rfl, Or.inl rfl⟩
    · have F1 := fe_free fc (b := u) d1 (show d < 10 by omega) q1 (show p < 6 by omega)
      have F2 := fm_take hR fm (b := u) d1 (show d < 10 by omega) q1 (show p < Dc 2 0 by omega)
      have nx : ¬ (fb_o Dc d u p ∧ wb_o Dc (D 28) d u p = D 28 (64 * d + u).toNat) → ∀ q : Int, 0 ≤ q → q < p + 1 → ¬ (fb_o Dc d u q ∧ wb_o Dc (D 28) d u q = D 28 (64 * d + u).toNat) := by
        intro h q y1 y2
        by_cases z : q = p
        · rw [z]
          exact h
        · exact none_ q y1 (by omega)
      rw [if_neg c, tw_s (a := p + 1) (by omega) (by omega)]
      by_cases e : fb_o Dc d u p
      · have o := or_b u1 u2 q1 (show p < 6 by omega)
        have i1 := W (64 * (d + 1) + tv_or u (tv_shl 1 p)).toNat (by omega) (by omega)
        unfold wr_o at i1
        have w1 : 0 ≤ wb_o Dc (D 28) d u p ∧ wb_o Dc (D 28) d u p ≤ 2100 := by
          unfold wb_o
          omega
        have W1 := fe_worth fc d1 (show d < 10 by omega) u1 u2 q1 (show p < 6 by omega) w1.1 (by omega)
        have W2 := fm_worth hR fm (f := D 28) d1 (show d < 10 by omega) u1 u2 q1 (show p < Dc 2 0 by omega) i1.1 w1.1 (by omega)
        rw [F1.1 e, F2.1 e, td_bs, td_bs, if_neg (show ¬ (1 : Int) = 0 by decide), if_neg (show ¬ (1 : Int) = 0 by decide), W1, td_bs, W2, td_bs, tw_s (a := d * 64) (by omega) (by omega), show d * 64 = 64 * d by omega, tw_s (a := 64 * d) (by omega) (by omega), tw_s (a := 64 * d + u) (by omega) (by omega), if_pos (show 0 ≤ 64 * d + u ∧ 64 * d + u < ((704 : Nat) : Int) by omega), if_pos (show 0 ≤ 64 * d + u ∧ 64 * d + u < ((704 : Nat) : Int) by omega), w0.1]
        by_cases g : wb_o Dc (D 28) d u p = D 28 (64 * d + u).toNat
        · rw [if_pos g, if_pos g, e11, if_neg (show ¬ p = Dc 2 0 by omega), if_neg c, tw_s (a := d + 1) (by omega) (by omega)]
          refine ⟨p, rfl, ?_, Or.inr ⟨q1, by omega⟩⟩
          rw [if_neg (show ¬ p = -2 by omega)]
        · rw [if_neg g, if_neg g]
          exact ih (p + 1) (by omega) (by omega) (by omega) (nx (fun z => g z.2))
      · rw [F1.2 e, F2.2 e, td_bs, td_bs, if_pos rfl, if_pos rfl]
        exact ih (p + 1) (by omega) (by omega) (by omega) (nx (fun z => e z.1))
theorem lk_doer {Dc Dm D E : td_D} (hR : lw_R Dc Dm) (fc : fr_c Dc D) (fm : fr_m Dm E) (hw : wt_o Dc D E (-1) 0) {k : Int} (k1 : 0 ≤ k) (k2 : k < Dc 2 2) : ∀ (m : Nat) (u x d : Int), 0 ≤ d → d ≤ k → k + 1 - d < m → 0 ≤ u → u < 64 → ∃ r : Int, F_X4_doerOf_9 m k u x d D = some (r, D) ∧ F_X12_who_35 m k u d E = some (r, E) := by
  obtain ⟨⟨⟨l1, l1a, l1b⟩, ⟨l2, l2a, l2b⟩, ⟨l3, l3a, l3b⟩, -⟩, -⟩ := id hR
  have d22 : D 2 2 = Dc 2 2 := by rw [fc.1 2 rfl]
  intro m
  induction m with
  | zero => intro u x d q1 q2 q3; omega
  | succ m ih =>
    intro u x d q1 q2 q3 u1 u2
    unfold F_X4_doerOf_9 F_X12_who_35
    obtain ⟨r, r1, r2, r3⟩ := lk_first hR fc fm hw (k := k) q1 (show d < Dc 2 2 by omega) u1 u2 (fun v1 v2 v3 D => F_X12_who_35 m v1 v2 v3 D) tf_N 0 (by omega) l1a (by unfold tf_N; omega) (fun q a b => by omega)
    have r1' : F_X4_firstDoer d u D = some (r, D) := by
      unfold F_X4_firstDoer
      exact r1
    rw [if_neg (show ¬ k < d by omega), if_neg (show ¬ k < d by omega), d22, if_neg (show ¬ Dc 2 2 ≤ d by omega), r1', td_bs, r2, tw_s (a := d + 1) (by omega) (by omega), or_z u1 u2]
    by_cases c : d = k
    · have fin : ∀ u' : Int, F_X4_doerOf_9 m k u' r (d + 1) D = some (r, D) := by
        intro u'
        obtain ⟨m', rfl⟩ : ∃ m' : Nat, m = m' + 1 := ⟨m - 1, by omega⟩
        unfold F_X4_doerOf_9
        rw [if_pos (by omega)]
      rw [if_pos c, fin, fin]
      refine ⟨r, ?_, rfl⟩
      split <;> rfl
    · rw [if_neg c]
      by_cases z : r = -2
      · rw [if_pos z, if_pos z]
        exact ih u r (d + 1) (by omega) (by omega) (by omega) u1 u2
      · have o := or_b u1 u2 (show 0 ≤ r by omega) (show r < 6 by omega)
        rw [if_neg z, if_neg z]
        exact ih _ r (d + 1) (by omega) (by omega) (by omega) o.1 o.2
theorem st_13 : ls_13 lw_R := by
  intro a1 Dc Dm _ _ hR
  obtain ⟨⟨⟨l1, l1a, l1b⟩, ⟨l2, l2a, l2b⟩, ⟨l3, l3a, l3b⟩, -⟩, -⟩ := id hR
  refine lk_R ?_ hR
  obtain ⟨D, E, e1, e2, fc, fm, hw⟩ := lk_find hR
  unfold F_X11_who F_X12_who F_X11_who_18
  rw [fm_in, td_bs, l3, tw_s (a := Dc 2 2 - 1) (by omega) (by omega), fe_isDeed, td_bs, e1, e2, td_bs, td_bs]
  simp only [tf_0]
  by_cases c : a1 = -1
  · rw [if_pos c, if_pos c, if_neg (by omega), if_neg (by omega)]
    exact lk_1 (hw.2.1 0 (by omega) (by omega)).1.symm fc fm
  · rw [if_neg c, if_neg c]
    by_cases d : 0 ≤ a1 ∧ a1 < Dc 2 2
    · obtain ⟨r, r1, r2⟩ := lk_doer hR fc fm hw d.1 d.2 tf_N 0 (-2) 0 (by omega) d.1 (by unfold tf_N; omega) (by omega) (by omega)
      have r1' : F_X4_doerOf a1 D = some (r, D) := by
        unfold F_X4_doerOf
        exact r1
      rw [if_neg (fun q => q d), r1', td_bs, if_neg (by omega), if_pos d.1, r2]
      exact lk_1 rfl fc fm
    · rw [if_pos d, if_pos (by omega)]
      exact lk_0 rfl
