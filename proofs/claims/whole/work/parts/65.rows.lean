def av_o (p : Nat) (i : Int) (D : td_D) : Int := if 0 ≤ i ∧ i < D p 2 then tv_w (D (td_r g_c p 3) i.toNat) else -2000000000
theorem fe_at {p : Nat} {i : Int} {D : td_D} (h : D p 2 ≤ 60) : F_X6_at p i D = some (av_o p i D, D) := by
  unfold F_X6_at F_X6_has av_o
  by_cases c1 : i < 0
  · simp (disch := omega) only [if_pos, if_neg, td_bs, if_true]
  · by_cases c2 : D p 2 ≤ i
    · simp (disch := omega) only [if_pos, if_neg, td_bs, if_true]
    · simp (disch := omega) only [if_pos, if_neg, td_bs, if_true]
theorem av_v {p : Nat} {i : Int} {D : td_D} (h : ¬ (0 ≤ i ∧ i < D p 2)) : av_o p i D = -2000000000 := if_neg h
/-- a row of bytes or of shorts -/
theorem sh_row {a k : Int} {Dc Dm : td_D} (hR : lw_R Dc Dm) (h1 : 0 ≤ a) (h2 : a ≤ 5) (hk : k = 0 ∨ k = 1) (ho : Dc (47 + 2 * a.toNat) 0 = k) : Dm 37 a.toNat = -2 - k ∧ Dm 38 a.toNat = Dc (47 + 2 * a.toNat) 2 ∧ 0 ≤ Dc (47 + 2 * a.toNat) 2 ∧ Dc (47 + 2 * a.toNat) 2 ≤ 60 ∧ ∀ i : Int, 0 ≤ i → i < Dc (47 + 2 * a.toNat) 2 → Dm 39 (60 * a + i).toNat = av_o (47 + 2 * a.toNat) i Dc ∧ -32768 ≤ av_o (47 + 2 * a.toNat) i Dc ∧ av_o (47 + 2 * a.toNat) i Dc ≤ 32767 ∧ (k = 0 → -128 ≤ av_o (47 + 2 * a.toNat) i Dc ∧ av_o (47 + 2 * a.toNat) i Dc ≤ 127) := by
  rcases sh_k (sh_all hR a.toNat (by omega)) with ⟨k1, k2⟩ | ⟨k1, k2, k3, k4⟩ | ⟨k1, k2, k3, k4, k5, k6, k7⟩
  · omega
  · omega
  · refine ⟨by omega, k4.symm, k5, k6, fun i i1 i2 => ?_⟩
    have b := k7 i.toNat (by omega)
    rw [show 60 * a.toNat + i.toNat = (60 * a + i).toNat by omega] at b
    unfold p_el at b
    have e : av_o (47 + 2 * a.toNat) i Dc = Dc (48 + 2 * a.toNat) i.toNat := by
      unfold av_o
      rw [if_pos ⟨i1, i2⟩, tr_sh (by omega)]
      exact tw_s (by omega) (by omega)
    rw [e]
    exact ⟨b.1, by omega, by omega, fun _ => by omega⟩
theorem fm_at {a i v : Int} {D : td_D} (h1 : 0 ≤ a) (h2 : a ≤ 5) (i1 : 0 ≤ i) (i2 : i < 60) (hv : D 39 (60 * a + i).toNat = v) (v1 : -32768 ≤ v) (v2 : v ≤ 32767) : F_X12_at a i D = some (v, D) := by
  unfold F_X12_at
  simp (disch := omega) only [tw_s, if_pos, hv]
/-- judge -/
theorem lk_judge {a : Int} {Dc Dm : td_D} (hR : lw_R Dc Dm) (h1 : 0 ≤ a) (h2 : a ≤ 5) (ho : Dc (47 + 2 * a.toNat) 0 = 1) : ∀ (m : Nat) (v : Int), 0 ≤ v → v ≤ 31 → 31 - v < m → lk_s (F_X11_judge_31 m (47 + 2 * a.toNat) (2 * v) Dc) (F_X12_judge_24 m a v Dm) Dc Dm := by
  obtain ⟨⟨⟨l1, l1a, l1b⟩, ⟨l2, l2a, l2b⟩, ⟨l3, l3a, l3b⟩, lon, -⟩, -⟩ := id hR
  obtain ⟨r1, r2, r3, r4, r5⟩ := sh_row hR h1 h2 (Or.inr rfl) ho
  intro m
  induction m with
  | zero => intro v q1 q2 q3; omega
  | succ m ih =>
    intro v q1 q2 q3
    unfold F_X11_judge_31 F_X12_judge_24
    simp only [fe_at r4, td_bs, fe_isPerson]
    by_cases c : Dc (47 + 2 * a.toNat) 2 ≤ 2 * v
    · simp (disch := omega) only [if_pos, tw_s]
      exact lk_0 rfl
    · obtain ⟨b1, b2, b3, -⟩ := r5 (2 * v) (by omega) (by omega)
      simp (disch := omega) only [if_pos, if_neg, tw_s, tv_dv, td_bs, fm_at h1 h2 (show 0 ≤ 2 * v by omega) (by omega) b1 b2 b3]
      by_cases c1 : Dc (47 + 2 * a.toNat) 2 ≤ 2 * v + 1
      · simp (disch := omega) only [if_pos, av_v (show ¬ (0 ≤ 2 * v + 1 ∧ 2 * v + 1 < Dc (47 + 2 * a.toNat) 2) by omega)]
        by_cases c2 : 0 ≤ av_o (47 + 2 * a.toNat) (2 * v) Dc ∧ av_o (47 + 2 * a.toNat) (2 * v) Dc < Dc 2 0
        · have b := lon (av_o (47 + 2 * a.toNat) (2 * v) Dc).toNat (by omega)
          simp (disch := omega) only [if_pos, if_neg, tf_t]
          exact lk_0 (by omega)
        · simp (disch := omega) only [if_pos, if_neg, tf_f, if_true]
          exact lk_0 (by omega)
      · obtain ⟨g1, g2, g3, -⟩ := r5 (2 * v + 1) (by omega) (by omega)
        simp (disch := omega) only [if_neg, fm_isPerson, td_bs, fm_at h1 h2 (show 0 ≤ 2 * v + 1 by omega) (by omega) g1 g2 g3, l1]
        by_cases c2 : 0 ≤ av_o (47 + 2 * a.toNat) (2 * v) Dc ∧ av_o (47 + 2 * a.toNat) (2 * v) Dc < Dc 2 0
        · have b := lon (av_o (47 + 2 * a.toNat) (2 * v) Dc).toNat (by omega)
          simp (disch := omega) only [if_pos, if_neg, tf_t, b.1]
          by_cases c3 : av_o (47 + 2 * a.toNat) (2 * v + 1) Dc = Dc 3 (av_o (47 + 2 * a.toNat) (2 * v) Dc).toNat
          · simp only [if_pos c3]
            have i := ih (v + 1) (by omega) (by omega) (by omega)
            rw [show 2 * (v + 1) = 2 * v + 2 by omega] at i
            exact i
          · simp only [if_neg c3]
            exact lk_0 (by omega)
        · simp (disch := omega) only [if_pos, if_neg, tf_f, if_true]
          exact lk_0 (by omega)
theorem st_21 : ls_21 lw_R := by
  intro a1 Dc Dm _ _ hR
  refine lk_R ?_ hR
  unfold F_X11_judge F_X12_judge F_X11_refusal F_X12_rowFault
  simp only [fe_isShelf, fm_isShelf, td_bs, tf_0]
  by_cases c : 0 ≤ a1 ∧ a1 ≤ 5
  · simp (disch := omega) only [if_pos, if_neg, tr_46, tw_s]
    rcases sh_k (sh_all hR a1.toNat (by omega)) with ⟨k1, k2⟩ | ⟨k1, k2, k3, k4⟩ | ⟨k1, k2, k3, k4, k5, k6, k7⟩
    · simp (disch := omega) only [if_pos, if_neg, td_bs]
      exact lk_0 rfl
    · simp (disch := omega) only [if_pos, if_neg, td_bs]
      exact lk_0 rfl
    · by_cases c1 : Dc (47 + 2 * a1.toNat) 0 = 1
      · simp (disch := omega) only [if_pos, if_neg, td_bs, if_true]
        exact lk_judge hR c.1 c.2 c1 tf_N 0 (by omega) (by omega) (by unfold tf_N; omega)
      · simp (disch := omega) only [if_pos, if_neg, td_bs]
        exact lk_0 rfl
  · simp only [if_pos c]
    exact lk_0 rfl
theorem lc_lt {a b : Int} : tv_lcmp a b < 0 ↔ a < b := by
  unfold tv_lcmp
  (repeat' split) <;> omega
theorem lc_le {a b : Int} : 0 ≤ tv_lcmp a b ↔ b ≤ a := by
  unfold tv_lcmp
  (repeat' split) <;> omega
theorem tl_s {a : Int} (h1 : -9223372036854775808 ≤ a) (h2 : a ≤ 9223372036854775807) : tv_wl a = a := by unfold tv_wl; omega
theorem fe_addFrom {p : Nat} {i : Int} {D : td_D} (h : D p 2 ≤ 60) : F_X11_addDeedFrom p i D = if ¬ ((0 ≤ av_o p i D ∧ av_o p i D ≤ 99) ∧ (0 ≤ av_o p (tv_w (i + 1)) D ∧ av_o p (tv_w (i + 1)) D ≤ 99) ∧ av_o p i D ≤ av_o p (tv_w (i + 1)) D ∧ (0 ≤ av_o p (tv_w (i + 2)) D ∧ av_o p (tv_w (i + 2)) D ≤ 99)) then some (0, D) else if D 2 2 < 10 then td_b (F_X3_addDeed (av_o p i D) (av_o p (tv_w (i + 1)) D) (av_o p (tv_w (i + 2)) D) D) fun _ D10 => some (1, D10) else some (0, D) := by
  unfold F_X11_addDeedFrom
  simp only [fe_at h, td_bs, fe_isDeedAs, tf_0]
/-- deeds -/
theorem lk_deeds {a i n : Int} (h1 : 0 ≤ a) (h2 : a ≤ 5) (hi : tv_in i) (n1 : 1 ≤ n) (n2 : n ≤ 10) : ∀ (m : Nat) (k : Int) (Dc Dm : td_D), 0 ≤ k → k ≤ n → n - k < m → lw_R Dc Dm → Dc (47 + 2 * a.toNat) 0 = 0 → lw_eq lw_R (F_X11_deeds_54 m i n (47 + 2 * a.toNat) k k Dc) (F_X12_deeds_58 m a i n k Dm) := by
  obtain ⟨i1, i2⟩ := hi
  intro m
  induction m with
  | zero => intro k Dc Dm q1 q2 q3; omega
  | succ m ih =>
    intro k Dc Dm q1 q2 q3 hR ho
    obtain ⟨⟨l1, l2, ⟨l3, l3a, l3b⟩, -⟩, -⟩ := id hR
    obtain ⟨r1, r2, r3, r4, r5⟩ := sh_row hR h1 h2 (Or.inl rfl) ho
    unfold F_X11_deeds_54 F_X12_deeds_58
    by_cases c : n ≤ k
    · simp (disch := omega) only [if_pos]
      exact lw_rt (by omega) hR
    · rw [tw_s (a := 3 * k) (by omega) (by omega), tl_s (a := i + 3 * k) (by omega) (by omega), tl_s (a := i + 3 * k + 2) (by omega) (by omega)]
      simp only [if_neg c, if_pos ho, lc_lt, lc_le, fe_addFrom r4, fm_areDeed, fm_isMuch, td_bs, tf_0]
      by_cases cA : i + 3 * k < 0 ∨ Dc (47 + 2 * a.toNat) 2 ≤ i + 3 * k + 2
      · have v : ¬ ((0 ≤ av_o (47 + 2 * a.toNat) (tv_w (i + 3 * k)) Dc ∧ av_o (47 + 2 * a.toNat) (tv_w (i + 3 * k)) Dc ≤ 99) ∧ (0 ≤ av_o (47 + 2 * a.toNat) (tv_w (tv_w (i + 3 * k) + 1)) Dc ∧ av_o (47 + 2 * a.toNat) (tv_w (tv_w (i + 3 * k) + 1)) Dc ≤ 99) ∧ av_o (47 + 2 * a.toNat) (tv_w (i + 3 * k)) Dc ≤ av_o (47 + 2 * a.toNat) (tv_w (tv_w (i + 3 * k) + 1)) Dc ∧ (0 ≤ av_o (47 + 2 * a.toNat) (tv_w (tv_w (i + 3 * k) + 2)) Dc ∧ av_o (47 + 2 * a.toNat) (tv_w (tv_w (i + 3 * k) + 2)) Dc ≤ 99)) := by
          by_cases z : 0 ≤ tv_w (i + 3 * k) ∧ tv_w (i + 3 * k) < Dc (47 + 2 * a.toNat) 2
          · have e : tv_w (i + 3 * k) = i + 3 * k := by
              revert z
              unfold tv_w
              omega
            have w := av_v (p := 47 + 2 * a.toNat) (i := tv_w (tv_w (i + 3 * k) + 2)) (D := Dc) (by rw [e, tw_s (by omega) (by omega)]; omega)
            rw [w]
            omega
          · rw [av_v z]
            omega
        rw [if_pos v, td_bs, if_pos rfl]
        by_cases cB : i + 3 * k < 0
        · simp only [if_pos cB]
          exact lw_rt rfl hR
        · simp (disch := omega) only [if_neg, if_pos]
          exact lw_rt rfl hR
      · obtain ⟨e1, e2, e3, e4⟩ := r5 (i + 3 * k) (by omega) (by omega)
        obtain ⟨f1, f2, f3, f4⟩ := r5 (i + 3 * k + 1) (by omega) (by omega)
        obtain ⟨g1, g2, g3, g4⟩ := r5 (i + 3 * k + 2) (by omega) (by omega)
        rw [show 60 * a + (i + 3 * k + 1) = 60 * a + (i + 3 * k) + 1 by omega] at f1
        rw [show 60 * a + (i + 3 * k + 2) = 60 * a + (i + 3 * k) + 2 by omega] at g1
        simp (disch := omega) only [tw_s, if_pos, if_neg, e1, f1, g1]
        generalize av_o (47 + 2 * a.toNat) (i + 3 * k) Dc = x at *
        generalize av_o (47 + 2 * a.toNat) (i + 3 * k + 1) Dc = y at *
        generalize av_o (47 + 2 * a.toNat) (i + 3 * k + 2) Dc = z at *
        by_cases d : Dc 2 2 < 10
        · by_cases v : (0 ≤ x ∧ x ≤ 99) ∧ (0 ≤ y ∧ y ≤ 99) ∧ x ≤ y ∧ (0 ≤ z ∧ z ≤ 99)
          · simp (disch := omega) only [if_neg, if_pos, fe_addDeed, fm_addDeed, td_bs, tw_s]
            exact ih _ _ _ (by omega) (by omega) (by omega) (lw_addDeed hR d v.1 v.2.1 v.2.2.2 v.2.2.1) (by
              rw [tu_row (by omega), tu_row (by omega), tu_row (by omega), tu_row (by omega)]
              exact ho)
          · by_cases v2 : (0 ≤ x ∧ x ≤ 99) ∧ (0 ≤ y ∧ y ≤ 99) ∧ x ≤ y
            · simp (disch := omega) only [if_neg, if_pos, td_bs]
              simp only [if_true]
              exact lw_rt rfl hR
            · simp (disch := omega) only [if_neg, if_pos, td_bs]
              simp only [if_true]
              exact lw_rt rfl hR
        · simp (disch := omega) only [if_neg d, if_pos]
          split
          · simp only [td_bs, if_true]
            exact lw_rt rfl hR
          · simp only [td_bs, if_true]
            exact lw_rt rfl hR
theorem st_3 : ls_3 lw_R := by
  intro a1 a2 a3 Dc Dm _ h2 _ _ hR
  unfold F_X11_deeds F_X12_deeds
  simp only [fe_isShelf, fm_isShelf, fm_in, td_bs, tf_0]
  by_cases c : 0 ≤ a1 ∧ a1 ≤ 5
  · by_cases d : 1 ≤ a3 ∧ a3 ≤ 10
    · simp (disch := omega) only [if_pos, if_neg, tr_46]
      rcases sh_k (sh_all hR a1.toNat (by omega)) with ⟨k1, k2⟩ | ⟨k1, k2, k3, k4⟩ | ⟨k1, k2, k3, k4, k5, k6, k7⟩
      · have e : F_X11_deeds_54 tf_N a2 a3 (47 + 2 * a1.toNat) 0 0 Dc = (if a3 ≤ 0 then some (0, Dc) else if Dc (47 + 2 * a1.toNat) 0 = 0 then (td_b (F_X11_addDeedFrom (47 + 2 * a1.toNat) (tv_w (a2 + (tv_w (3 * 0)))) Dc) fun r1 D2 => if r1 = 0 then some (0, D2) else F_X11_deeds_54 4999 a2 a3 (47 + 2 * a1.toNat) (tv_w (0 + 1)) (tv_w (0 + 1)) D2) else some (0, Dc)) := rfl
        rw [e]
        simp (disch := omega) only [if_pos, if_neg]
        exact lw_rt rfl hR
      · simp (disch := omega) only [if_pos, if_neg]
        exact lw_rt rfl hR
      · by_cases c1 : Dc (47 + 2 * a1.toNat) 0 = 0
        · simp (disch := omega) only [if_pos, if_neg]
          exact lk_deeds c.1 c.2 h2 d.1 d.2 tf_N 0 Dc Dm (by omega) (by omega) (by unfold tf_N; omega) hR c1
        · simp (disch := omega) only [if_pos, if_neg]
          exact lw_rt rfl hR
    · by_cases d2 : a3 < 1 <;> simp (disch := omega) only [if_pos, if_neg] <;> exact lw_rt rfl hR
  · simp only [if_pos c]
    exact lw_rt rfl hR
