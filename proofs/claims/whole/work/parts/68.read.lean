theorem fr_hi {r : Nat} (h : 32 ≤ r) : fr_cs r = false := by
  unfold fr_cs
  split <;> first | omega | rfl
theorem av_fr {p : Nat} {i : Int} {s : Nat} {D D' : td_D} (hs : s < 6) (hp : p = 47 + 2 * s) (h : fr_c D D') : av_o p i D' = av_o p i D := by
  subst hp
  unfold av_o
  rw [tr_sh hs, h.1 _ (fr_hi (by omega)), h.1 _ (fr_hi (by omega))]
theorem fe_mayDo {d o : Int} {D : td_D} (h1 : 0 ≤ d) (h2 : d < 10) : F_X3_mayDo d o D = some (tv_tf (D 7 d.toNat ≤ o ∧ o ≤ D 8 d.toNat), D) := by
  unfold F_X3_mayDo tv_tf
  rw [if_pos (by omega)]
  (repeat' split) <;> first | rfl | omega
theorem fm_mayDo {d o : Int} {D : td_D} (h1 : 0 ≤ d) (h2 : d < 10) : F_X12_mayDo d o D = some (tv_tf (D 5 d.toNat ≤ o ∧ o ≤ D 6 d.toNat), D) := by
  unfold F_X12_mayDo tv_tf
  rw [if_pos (by omega)]
  (repeat' split) <;> first | rfl | omega
/-- the deeds of a round, as read -/
def rd_o (de : Int) (D E : td_D) (k : Int) : Prop := D 29 2 = k ∧ E 1 35 = k ∧ 0 ≤ k ∧ k ≤ 20 ∧ ∀ i : Nat, (i : Int) < k → E 23 i = D 30 i ∧ 0 ≤ D 30 i ∧ D 30 i < de
theorem lk_read {a : Int} {Dc Dm : td_D} (hR : lw_R Dc Dm) (h1 : 0 ≤ a) (h2 : a ≤ 5) (ho : Dc (47 + 2 * a.toNat) 0 = 0) : ∀ (m : Nat) (v : Int) (D E : td_D), fr_c Dc D → fr_m Dm E → rd_o (Dc 2 2) D E v → 20 - v < m → ∃ (D' E' : td_D) (k : Int), F_X5_read_7 m (47 + 2 * a.toNat) v D = some (0, D') ∧ F_X12_layRound_5 m a E = some (0, E') ∧ fr_c Dc D' ∧ fr_m Dm E' ∧ rd_o (Dc 2 2) D' E' k := by
  obtain ⟨⟨⟨l1, l1a, l1b⟩, ⟨l2, l2a, l2b⟩, ⟨l3, l3a, l3b⟩, lon, -⟩, -⟩ := id hR
  obtain ⟨r1, r2, r3, r4, r5⟩ := sh_row hR h1 h2 (Or.inl rfl) ho
  intro m
  induction m with
  | zero =>
    intro v D E fc fm rd q3
    obtain ⟨x1, x2, x3, x4, x5⟩ := rd
    omega
  | succ m ih =>
    intro v D E fc fm rd q3
    obtain ⟨x1, x2, x3, x4, x5⟩ := id rd
    have pe : D (47 + 2 * a.toNat) = Dc (47 + 2 * a.toNat) := fc.1 _ (fr_hi (by omega))
    have d2 : D 2 2 = Dc 2 2 := by rw [fc.1 2 rfl]
    have e38 : E 38 a.toNat = Dc (47 + 2 * a.toNat) 2 := by rw [fm.1 38 rfl]; exact r2
    have e39 : E 39 = Dm 39 := fm.1 39 rfl
    have e16 : E 1 6 = Dc 2 2 := by rw [fm.2 6 rfl]; exact l3
    unfold F_X5_read_7 F_X12_layRound_5
    by_cases c : 20 ≤ v
    · rw [if_pos c, x2, if_pos c]
      exact ⟨D, E, v, rfl, rfl, fc, fm, rd⟩
    · rw [if_neg c, x2, if_neg c, if_pos (show 0 ≤ a ∧ a < ((6 : Nat) : Int) by omega), e38, fe_at (by rw [pe]; exact r4), td_bs, fe_isDeed, td_bs, d2, av_fr (s := a.toNat) (by omega) rfl fc]
      by_cases c1 : Dc (47 + 2 * a.toNat) 2 ≤ v
      · rw [if_pos c1, av_v (by omega), tf_f (by omega), if_pos rfl]
        exact ⟨D, E, v, rfl, rfl, fc, fm, rd⟩
      · obtain ⟨b1, b2, b3, -⟩ := r5 v x3 (by omega)
        rw [if_neg c1, fm_at h1 h2 x3 (by omega) (by rw [e39]; exact b1) b2 b3, td_bs, fm_isDeed _ (by omega), td_bs, e16]
        by_cases c2 : 0 ≤ av_o (47 + 2 * a.toNat) v Dc ∧ av_o (47 + 2 * a.toNat) v Dc < Dc 2 2
        · rw [tf_t c2]
          simp only [if_neg (show ¬ (1 : Int) = 0 by decide), fe_at (show D (47 + 2 * a.toNat) 2 ≤ 60 by rw [pe]; exact r4), td_bs, x2, fm_at h1 h2 x3 (show v < 60 by omega) (show E 39 (60 * a + v).toNat = _ by rw [e39]; exact b1) b2 b3, if_pos (show 0 ≤ v ∧ v < ((20 : Nat) : Int) by omega), td_ls, av_fr (s := a.toNat) (by omega) rfl fc]
          simp (disch := decide) only [tu_row, tu_at, tu_same, tu_ne]
          rw [x1, x2, tw_s (a := v + 1) (by omega) (by omega)]
          refine ih (v + 1) _ _ (fr_ct fc (fr_ct (fr_cu rfl (fun q => absurd q.1 (by decide))) (fr_cu rfl (by decide)))) (fr_mt fm (fr_mt (fr_mu rfl (fun q => absurd q (by decide))) (fr_mu rfl (fun _ => rfl)))) ⟨?_, ?_, by omega, by omega, fun i hi => ?_⟩ (by omega)
          · simp (disch := decide) only [tu_row, tu_at, tu_same, tu_ne]
          · simp (disch := decide) only [tu_row, tu_at, tu_same, tu_ne]
          · simp (disch := decide) only [tu_row, tu_at, tu_same, tu_ne]
            unfold tv_up
            by_cases z : i = v.toNat
            · simp only [if_pos z]
              exact ⟨trivial, c2.1, c2.2⟩
            · simp only [if_neg z]
              exact x5 i (by omega)
        · rw [tf_f c2]
          simp only [if_true]
          exact ⟨D, E, v, rfl, rfl, fc, fm, rd⟩
theorem lk_rd {a : Int} {Dc Dm : td_D} (hR : lw_R Dc Dm) (h1 : 0 ≤ a) (h2 : a ≤ 5) (ho : Dc (47 + 2 * a.toNat) 0 = 0) : ∃ (D' E' : td_D) (k : Int), F_X5_read (47 + 2 * a.toNat) Dc = some (0, D') ∧ F_X12_layRound a Dm = some (0, E') ∧ fr_c Dc D' ∧ fr_m Dm E' ∧ rd_o (Dc 2 2) D' E' k := by
  unfold F_X5_read F_X12_layRound
  simp only [td_ls]
  refine lk_read hR h1 h2 ho tf_N 0 _ _ (fr_cu rfl (by decide)) (fr_mu rfl (fun _ => rfl)) ⟨?_, ?_, by omega, by omega, fun i hi => by omega⟩ (by unfold tf_N; omega)
  · simp (disch := decide) only [tu_row, tu_at, tu_same, tu_ne]
  · simp (disch := decide) only [tu_row, tu_at, tu_same, tu_ne]
/-- without -/
theorem lk_wo {p k : Int} {Dc Dm D E : td_D} (hR : lw_R Dc Dm) (fc : fr_c Dc D) (fm : fr_m Dm E) (rd : rd_o (Dc 2 2) D E k) (p1 : 0 ≤ p) (p2 : p < Dc 2 0) : ∀ (m : Nat) (w v : Int), 0 ≤ w → w ≤ 99 * v → 0 ≤ v → v ≤ 20 → 20 - v < m → ∃ r : Int, F_X5_worthWithoutGoing_12 m p w v D = some (r, D) ∧ F_X12_without_41 m p w v E = some (r, E) := by
  obtain ⟨⟨⟨l1, l1a, l1b⟩, ⟨l2, l2a, l2b⟩, ⟨l3, l3a, l3b⟩, lon, lce, lsh, lz, lnd, lmo, lwo, lnm⟩, -⟩ := id hR
  obtain ⟨x1, x2, x3, x4, x5⟩ := rd
  intro m
  induction m with
  | zero => intro w v w1 w2 q1 q2 q3; omega
  | succ m ih =>
    intro w v w1 w2 q1 q2 q3
    unfold F_X5_worthWithoutGoing_12 F_X12_without_41
    rw [x1, x2]
    by_cases c : k ≤ v
    · rw [if_pos c, if_pos c]
      exact ⟨_, rfl, rfl⟩
    · obtain ⟨y1, y2, y3⟩ := x5 v.toNat (by omega)
      have z3 : D 3 = Dc 3 := fc.1 3 rfl
      have z7 : D 7 = Dc 7 := fc.1 7 rfl
      have z8 : D 8 = Dc 8 := fc.1 8 rfl
      have z9 : D 9 = Dc 9 := fc.1 9 rfl
      have m2 : E 2 = Dm 2 := fm.1 2 rfl
      have m5 : E 5 = Dm 5 := fm.1 5 rfl
      have m6 : E 6 = Dm 6 := fm.1 6 rfl
      have m7 : E 7 = Dm 7 := fm.1 7 rfl
      have v20 : 0 ≤ v ∧ v < ((20 : Nat) : Int) := by omega
      have p6 : 0 ≤ p ∧ p < ((6 : Nat) : Int) := by omega
      have d10 : 0 ≤ D 30 v.toNat ∧ D 30 v.toNat < ((10 : Nat) : Int) := by omega
      have b9 := lwo (D 30 v.toNat).toNat (by omega)
      simp only [if_neg c, if_pos v20, if_pos p6, y1, fe_mayDo y2 (show D 30 v.toNat < 10 by omega), fm_mayDo y2 (show D 30 v.toNat < 10 by omega), td_bs, if_pos d10, z3, z7, z8, z9, m2, m5, m6, m7, (lon p.toNat (by omega)).1, (lnd (D 30 v.toNat).toNat (by omega)).1, (lmo (D 30 v.toNat).toNat (by omega)).1, b9.1]
      rw [tw_s (a := v + 1) (by omega) (by omega), tw_s (a := w + 0) (by omega) (by omega), tw_s (a := w + Dc 9 (D 30 v.toNat).toNat) (by omega) (by omega), Int.add_zero]
      split
      · exact ih w (v + 1) w1 (by omega) (by omega) (by omega) (by omega)
      · exact ih _ (v + 1) (by omega) (by omega) (by omega) (by omega) (by omega)
theorem st_12 : ls_12 lw_R := by
  intro a1 a2 Dc Dm _ _ _ hR
  obtain ⟨⟨⟨l1, l1a, l1b⟩, -⟩, -⟩ := id hR
  refine lk_R ?_ hR
  unfold F_X11_without F_X12_without F_X11_refusal F_X12_rowFault F_X5_worthWithoutGoing
  simp only [fe_isShelf, fm_isShelf, fe_isPerson, fm_isPerson _ (show 0 ≤ Dm 1 1 ∧ Dm 1 1 ≤ 6 by omega), td_bs, tf_0, l1]
  by_cases c : 0 ≤ a1 ∧ a1 ≤ 5
  · by_cases d : 0 ≤ a2 ∧ a2 < Dc 2 0
    · simp (disch := omega) only [if_pos, if_neg, tr_46, tw_s]
      rcases sh_k (sh_all hR a1.toNat (by omega)) with ⟨k1, k2⟩ | ⟨k1, k2, k3, k4⟩ | ⟨k1, k2, k3, k4, k5, k6, k7⟩
      · simp (disch := omega) only [if_pos, if_neg, td_bs]
        exact lk_0 rfl
      · simp (disch := omega) only [if_pos, if_neg, td_bs]
        exact lk_0 rfl
      · by_cases c1 : Dc (47 + 2 * a1.toNat) 0 = 0
        · obtain ⟨D', E', k, e1, e2, fc, fm, rd⟩ := lk_rd hR c.1 c.2 c1
          obtain ⟨r, f1, f2⟩ := lk_wo hR fc fm rd d.1 d.2 tf_N 0 0 (by omega) (by omega) (by omega) (by omega) (by unfold tf_N; omega)
          simp (disch := omega) only [if_pos, if_neg, td_bs, if_true, e1, e2, f1, f2]
          exact lk_1 rfl fc fm
        · simp (disch := omega) only [if_pos, if_neg, td_bs]
          exact lk_0 rfl
    · simp only [if_neg (show ¬ ¬ (0 ≤ a1 ∧ a1 ≤ 5) from fun q => q c), if_pos d]
      exact lk_0 rfl
  · simp only [if_pos c]
    exact lk_0 rfl
