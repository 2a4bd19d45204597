/-- as td_bs, but no step by rfl: the kernel need not look into what is bound -/
theorem tb_s {r : Int} {D : td_D} {K : Int → td_D → Option (Int × td_D)} : td_b (some (r, D)) K = K r D := Eq.trans td_bs rfl
theorem tb_l {D : td_D} {K : td_D → Option (Int × td_D)} : td_l D K = K D := Eq.trans td_ls rfl
theorem fe_isTry {p : Nat} {i : Int} {D : td_D} (h : D p 2 ≤ 60) (i1 : 0 ≤ i) (i2 : i ≤ 100) : F_X11_isTry p i D = some (tv_tf ((0 ≤ av_o p i D ∧ av_o p i D < 10) ∧ (0 ≤ av_o p (i + 1) D ∧ av_o p (i + 1) D < 10) ∧ (av_o p (i + 2) D = 0 ∨ av_o p (i + 2) D = 1)), D) := by
  unfold F_X11_isTry
  simp only [fe_at h, td_bs]
  rw [tw_s (a := i + 1) (by omega) (by omega), tw_s (a := i + 2) (by omega) (by omega)]
  unfold tv_tf
  (repeat' split) <;> first | rfl | omega
theorem lk_so {a h re : Int} {Dc Dm : td_D} (hR : lw_R Dc Dm) (h1 : 0 ≤ a) (h2 : a ≤ 5) (ho : Dc (47 + 2 * a.toNat) 0 = 0) (g1 : 0 ≤ h) (g2 : h < 5) (hre : re = Dc 2 10) : ∀ (m : Nat) (i aF aN : Int), 0 ≤ i → i ≤ 62 → 62 - i < m → ∃ F N : Int, F_X11_farthestStung_4 m (47 + 2 * a.toNat) (Dc 4 h.toNat) aF i Dc = some (F, Dc) ∧ F_X11_nearestSafe_5 m (47 + 2 * a.toNat) (Dc 4 h.toNat) aN i Dc = some (N, Dc) ∧ ∀ (v : Int) (E : td_D), 0 ≤ v → v ≤ 99 → fr_m Dm E → ∃ b : Int, F_X12_isSo_3 m a h v i E = some (b, E) ∧ (b = 0 ∨ b = 1) ∧ ((aF ≤ fo_o v re ∧ fo_o v re < aN ∧ b = 1) ↔ (F ≤ fo_o v re ∧ fo_o v re < N)) := by
  obtain ⟨⟨⟨l1, l1a, l1b⟩, ⟨l2, l2a, l2b⟩, ⟨l3, l3a, l3b⟩, lon, lce, -⟩, ⟨-, ⟨s2, s2a, s2b⟩, -⟩, -⟩ := id hR
  obtain ⟨r1, r2, r3, r4, r5⟩ := sh_row hR h1 h2 (Or.inl rfl) ho
  have bc := lce h.toNat (by omega)
  have a6 : 0 ≤ a ∧ a < ((6 : Nat) : Int) := by omega
  have h6 : 0 ≤ h ∧ h < ((6 : Nat) : Int) := by omega
  intro m
  induction m with
  | zero => intro i aF aN q1 q2 q3; omega
  | succ m ih =>
    intro i aF aN q1 q2 q3
    have e38 : ∀ E : td_D, fr_m Dm E → E 38 a.toNat = Dc (47 + 2 * a.toNat) 2 := fun E fm => by rw [fm.1 38 rfl]; exact r2
    unfold F_X11_farthestStung_4 F_X11_nearestSafe_5
    by_cases c : 60 ≤ i
    · rw [if_pos c, if_pos c]
      refine ⟨aF, aN, rfl, rfl, fun v E v1 v2 fm => ⟨1, ?_, Or.inr rfl, by omega⟩⟩
      unfold F_X12_isSo_3
      rw [if_pos a6, e38 E fm, tw_s (by omega) (by omega), if_pos (by omega)]
    · rw [if_neg c, if_neg c, fe_isTry r4 q1 (by omega), td_bs, td_bs]
      by_cases cl : Dc (47 + 2 * a.toNat) 2 ≤ i + 2
      · rw [tf_f (by rw [av_v (i := i + 2) (by omega)]; omega), if_pos rfl, if_pos rfl]
        refine ⟨aF, aN, rfl, rfl, fun v E v1 v2 fm => ⟨1, ?_, Or.inr rfl, by omega⟩⟩
        unfold F_X12_isSo_3
        rw [if_pos a6, e38 E fm, tw_s (by omega) (by omega), if_pos (by omega)]
      · obtain ⟨b1, b2, b3, -⟩ := r5 i (by omega) (by omega)
        obtain ⟨c1, c2, c3, -⟩ := r5 (i + 1) (by omega) (by omega)
        obtain ⟨d1, d2, d3, -⟩ := r5 (i + 2) (by omega) (by omega)
        have M : ∀ (v : Int) (E : td_D), 0 ≤ v → v ≤ 99 → fr_m Dm E → F_X12_at a i E = some (av_o (47 + 2 * a.toNat) i Dc, E) ∧ F_X12_at a (i + 1) E = some (av_o (47 + 2 * a.toNat) (i + 1) Dc, E) ∧ F_X12_at a (i + 2) E = some (av_o (47 + 2 * a.toNat) (i + 2) Dc, E) ∧ F_X12_stingsTo v E = some (fo_o v re, E) ∧ E 3 h.toNat = Dc 4 h.toNat := by
          intro v E v1 v2 fm
          have e39 : E 39 = Dm 39 := fm.1 39 rfl
          have e8 : E 8 1 = re := by rw [fm.1 8 rfl, s2, hre]
          refine ⟨fm_at h1 h2 (by omega) (by omega) (by rw [e39]; exact b1) b2 b3, fm_at h1 h2 (by omega) (by omega) (by rw [e39]; exact c1) c2 c3, fm_at h1 h2 (by omega) (by omega) (by rw [e39]; exact d1) d2 d3, ?_, by rw [fm.1 3 rfl]; exact bc.1⟩
          rw [fm_stingsTo v1 (by omega) (by omega), e8]
        have A0 := fe_at (i := i) r4
        have A1 := fe_at (i := i + 1) r4
        have A2 := fe_at (i := i + 2) r4
        generalize av_o (47 + 2 * a.toNat) i Dc = x at *
        generalize av_o (47 + 2 * a.toNat) (i + 1) Dc = y at *
        generalize av_o (47 + 2 * a.toNat) (i + 2) Dc = z at *
        by_cases t : (0 ≤ x ∧ x < 10) ∧ (0 ≤ y ∧ y < 10) ∧ (z = 0 ∨ z = 1)
        · have dd := fe_apart (D := Dc) bc.2.1 bc.2.2 (show 0 ≤ x + 10 * y by omega) (show x + 10 * y ≤ 99 by omega)
          have db := da_b bc.2.1 bc.2.2 (show 0 ≤ x + 10 * y by omega) (show x + 10 * y ≤ 99 by omega)
          have dm : ∀ (t' : Int) (E : td_D), F_X12_stingsIn (Dc 4 h.toNat) t' (x + 10 * y) E = some (tv_tf (da_o (Dc 4 h.toNat) (x + 10 * y) ≤ t'), E) := fun t' E => by
            rw [fm_stingsIn bc.2.1 bc.2.2 (by omega) (by omega), da_y]
          have M2 : ∀ (v : Int) (E : td_D), 0 ≤ v → v ≤ 99 → fr_m Dm E → F_X12_isSo_3 (m + 1) a h v i E = (if z = 1 then (if tv_tf (da_o (Dc 4 h.toNat) (x + 10 * y) ≤ fo_o v re) = 1 then F_X12_isSo_3 m a h v (i + 3) E else some (0, E)) else (if tv_tf (da_o (Dc 4 h.toNat) (x + 10 * y) ≤ fo_o v re) = 0 then F_X12_isSo_3 m a h v (i + 3) E else some (0, E))) := by
            intro v E v1 v2 fm
            obtain ⟨m1, m2, m3, m4, m5⟩ := M v E v1 v2 fm
            conv =>
              lhs
              unfold F_X12_isSo_3
            rw [if_pos a6, e38 E fm, tw_s (a := i + 2) (by omega) (by omega), if_neg cl, m1, td_bs, tw_s (a := i + 1) (by omega) (by omega), m2, td_bs, m3, td_bs, fm_in, td_bs, tf_t (by omega), if_neg (by decide), fm_in, td_bs, tf_t (by omega), if_neg (by decide), fm_in, td_bs, tf_t (by omega), if_neg (by decide), if_pos h6, m4, td_bs, m5, tw_s (a := 10 * y) (by omega) (by omega), tw_s (a := 10 * y + x) (by omega) (by omega), show 10 * y + x = x + 10 * y by omega, dm, td_bs, tw_s (a := i + 3) (by omega) (by omega)]
          rw [tf_t t, if_neg (by decide), if_neg (by decide), tw_s (a := i + 2) (by omega) (by omega), A2, td_bs, td_bs, tw_s (a := i + 3) (by omega) (by omega)]
          generalize da_o (Dc 4 h.toNat) (x + 10 * y) = d at *
          by_cases z1 : z = 1
          · obtain ⟨F, N, f1, f2, f3⟩ := ih (i + 3) (tv_max aF d) aN (by omega) (by omega) (by omega)
            refine ⟨F, N, ?_, ?_, fun v E v1 v2 fm => ?_⟩
            · rw [if_pos z1, A0, td_bs, tw_s (a := i + 1) (by omega) (by omega), A1, td_bs, tw_s (a := 10 * y) (by omega) (by omega), tw_s (a := x + 10 * y) (by omega) (by omega), dd, td_bs]
              exact f1
            · rw [if_neg (by omega)]
              exact f2
            · obtain ⟨b, w1, w2, w3⟩ := f3 v E v1 v2 fm
              rw [M2 v E v1 v2 fm, if_pos z1]
              unfold tv_max at w3
              by_cases q : d ≤ fo_o v re
              · rw [tf_t q, if_pos rfl]
                refine ⟨b, w1, w2, ?_⟩
                rw [← w3]
                split <;> omega
              · rw [tf_f q, if_neg (by decide)]
                refine ⟨0, rfl, Or.inl rfl, ?_⟩
                rw [← w3]
                split <;> omega
          · obtain ⟨F, N, f1, f2, f3⟩ := ih (i + 3) aF (tv_min aN d) (by omega) (by omega) (by omega)
            refine ⟨F, N, ?_, ?_, fun v E v1 v2 fm => ?_⟩
            · rw [if_neg z1]
              exact f1
            · rw [if_pos (by omega), A0, td_bs, tw_s (a := i + 1) (by omega) (by omega), A1, td_bs, tw_s (a := 10 * y) (by omega) (by omega), tw_s (a := x + 10 * y) (by omega) (by omega), dd, td_bs]
              exact f2
            · obtain ⟨b, w1, w2, w3⟩ := f3 v E v1 v2 fm
              rw [M2 v E v1 v2 fm, if_neg z1]
              unfold tv_min at w3
              by_cases q : d ≤ fo_o v re
              · rw [tf_t q, if_neg (by decide)]
                refine ⟨0, rfl, Or.inl rfl, ?_⟩
                rw [← w3]
                split <;> omega
              · rw [tf_f q, if_pos rfl]
                refine ⟨b, w1, w2, ?_⟩
                rw [← w3]
                split <;> omega
        · rw [tf_f t, if_pos rfl, if_pos rfl]
          refine ⟨aF, aN, rfl, rfl, fun v E v1 v2 fm => ⟨1, ?_, Or.inr rfl, by omega⟩⟩
          obtain ⟨m1, m2, m3, m4, m5⟩ := M v E v1 v2 fm
          unfold F_X12_isSo_3
          rw [if_pos a6, e38 E fm, tw_s (a := i + 2) (by omega) (by omega), if_neg cl, m1, td_bs, tw_s (a := i + 1) (by omega) (by omega), m2, td_bs, m3, td_bs]
          simp only [fm_in, td_bs, tf_0]
          (repeat' split) <;> first | rfl | omega
theorem fe_makes {v F N : Int} {D : td_D} (v1 : 0 ≤ v) (v2 : v ≤ 99) (r : 1 ≤ D 2 10) : F_X11_makesAllSo v F N D = some (tv_tf (F ≤ fo_o v (D 2 10) ∧ fo_o v (D 2 10) < N), D) := by
  unfold F_X11_makesAllSo
  rw [fe_farOf v1 (by omega) r, td_bs]
  unfold tv_tf
  (repeat' split) <;> first | rfl | omega
theorem lk_tries {a h w F N : Int} {Dc Dm : td_D} (r : 1 ≤ Dc 2 10) (H : ∀ (v : Int) (E : td_D), 0 ≤ v → v ≤ 99 → fr_m Dm E → ∃ b : Int, F_X12_isSo a h v E = some (b, E) ∧ (b = 0 ∨ b = 1) ∧ (b = 1 ↔ (F ≤ fo_o v (Dc 2 10) ∧ fo_o v (Dc 2 10) < N))) : ∀ (m : Nat) (n l g v : Int), 0 ≤ v → v ≤ 100 → 100 - v < m → 0 ≤ n → n ≤ v → (l = -2 ↔ n = 0) → lk_s (F_X11_tries_99 m w F N n l g v Dc) (F_X12_tries_56 m a h w n l g v Dm) Dc Dm := by
  intro m
  induction m with
  | zero => intro n l g v q1 q2 q3; omega
  | succ m ih =>
    intro n l g v q1 q2 q3 n1 n2 hl
    unfold F_X11_tries_99 F_X12_tries_56
    by_cases c : 99 < v
    · rw [if_pos c, if_pos c]
      (repeat' split) <;> exact lk_0 rfl
    · obtain ⟨b, b1, b2, b3⟩ := H v Dm q1 (by omega) (fr_m0 _)
      rw [if_neg c, if_neg c, fe_makes q1 (by omega) r, td_bs, b1, td_bs, tw_s (a := v + 1) (by omega) (by omega), tw_s (a := n + 1) (by omega) (by omega)]
      by_cases d : F ≤ fo_o v (Dc 2 10) ∧ fo_o v (Dc 2 10) < N
      · have bb := b3.mpr d
        rw [tf_t d, if_neg (show ¬ (1 : Int) = 0 by decide), if_neg (show ¬ b = 0 by omega)]
        by_cases e : n = 0
        · rw [if_pos (hl.mpr e), if_pos e]
          exact ih _ _ _ _ (by omega) (by omega) (by omega) (by omega) (by omega) (by omega)
        · rw [if_neg (fun z => e (hl.mp z)), if_neg e]
          exact ih _ _ _ _ (by omega) (by omega) (by omega) (by omega) (by omega) (by omega)
      · rw [tf_f d, if_pos rfl, if_pos (by rcases b2 with z | z; exact z; exact (d (b3.mp z)).elim)]
        exact ih _ _ _ _ (by omega) (by omega) (by omega) (by omega) (by omega) hl
theorem st_18 : ls_18 lw_R := by
  intro a1 a2 a3 Dc Dm _ _ _ _ hR
  obtain ⟨⟨⟨l1, l1a, l1b⟩, ⟨l2, l2a, l2b⟩, -⟩, ⟨-, ⟨s2, s2a, s2b⟩, -⟩, -⟩ := id hR
  refine lk_R ?_ hR
  unfold F_X11_tries F_X12_tries F_X11_refusal F_X12_rowFault
  simp only [fe_isShelf, fm_isShelf, fe_isHive, fm_isHive _ (show 0 ≤ Dm 1 3 ∧ Dm 1 3 ≤ 5 by omega), fm_in, tb_s, tf_0, l2]
  by_cases c : 0 ≤ a1 ∧ a1 ≤ 5
  · by_cases d : 0 ≤ a2 ∧ a2 < Dc 2 1
    · by_cases e : 0 ≤ a3 ∧ a3 ≤ 2
      · simp only [if_neg (show ¬ ¬ (0 ≤ a1 ∧ a1 ≤ 5) from fun q => q c), if_neg (show ¬ ¬ (0 ≤ a2 ∧ a2 < Dc 2 1) from fun q => q d), if_neg (show ¬ ¬ (0 ≤ a3 ∧ a3 ≤ 2) from fun q => q e), if_neg (show ¬ a3 < 0 by omega), if_pos e.2, if_pos (show 0 ≤ a1 ∧ a1 < ((6 : Nat) : Int) by omega), if_pos (show 0 ≤ a2 ∧ a2 < ((5 : Nat) : Int) by omega)]
        rw [tr_46 (k := a1.toNat) (by omega), tw_s (a := -2 - 0) (by omega) (by omega)]
        rcases sh_k (sh_all hR a1.toNat (by omega)) with ⟨k1, k2⟩ | ⟨k1, k2, k3, k4⟩ | ⟨k1, k2, k3, k4, k5, k6, k7⟩
        · simp (disch := omega) only [if_pos, if_neg, tb_s]
          exact lk_0 rfl
        · simp (disch := omega) only [if_pos, if_neg, tb_s]
          exact lk_0 rfl
        · by_cases c1 : Dc (47 + 2 * a1.toNat) 0 = 0
          · obtain ⟨F, N, f1, f2, f3⟩ := lk_so (h := a2) hR c.1 c.2 c1 d.1 (by omega) rfl tf_N 0 (-1) 100 (by omega) (by omega) (by unfold tf_N; omega)
            unfold F_X11_farthestStung F_X11_nearestSafe
            simp only [if_neg (show ¬ Dc (47 + 2 * a1.toNat) 0 = -1 by omega), if_pos c1, tb_s, if_neg (show ¬ Dm 37 a1.toNat = -1 by omega), if_pos (show Dm 37 a1.toNat = -2 - 0 by omega), if_true, if_pos (show (0 : Int) ≤ 0 by decide), f1, f2]
            refine lk_tries s2a (fun v E v1 v2 fm => ?_) tf_N 0 (-2) (-2) 0 (by omega) (by omega) (by unfold tf_N; omega) (by omega) (by omega) (by omega)
            obtain ⟨b, w1, w2, w3⟩ := f3 v E v1 v2 fm
            have fb := fo_b v1 s2a
            have w4 : F_X12_isSo a1 a2 v E = some (b, E) := by
              unfold F_X12_isSo
              exact w1
            exact ⟨b, w4, w2, by rw [← w3]; omega⟩
          · simp (disch := omega) only [if_pos, if_neg, tb_s]
            exact lk_0 rfl
      · simp only [if_neg (show ¬ ¬ (0 ≤ a1 ∧ a1 ≤ 5) from fun q => q c), if_neg (show ¬ ¬ (0 ≤ a2 ∧ a2 < Dc 2 1) from fun q => q d), if_pos e]
        (repeat' split) <;> first | (exfalso; omega) | exact lk_0 rfl
    · simp only [if_neg (show ¬ ¬ (0 ≤ a1 ∧ a1 ≤ 5) from fun q => q c), if_pos d]
      exact lk_0 rfl
  · simp only [if_pos c]
    exact lk_0 rfl
