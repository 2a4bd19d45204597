theorem dy_fc {Dc Dm D E : td_D} (dy : dy_o Dc Dm D E) (h6 : D 6 = Dc 6) : fr_c Dc D := by
  refine ⟨fun r q => ?_, ?_⟩
  · by_cases z : r = 6
    · rw [z]; exact h6
    · exact dy.1 r z (fun w => by rw [w] at q; cases q) (fun w => by rw [w] at q; cases q) (fun w => by rw [w] at q; cases q) (fun w => by rw [w] at q; cases q)
  · rw [dy.1 10 (by decide) (by decide) (by decide) (by decide) (by decide)]
theorem dy_fm {Dc Dm D E : td_D} (dy : dy_o Dc Dm D E) : fr_m Dm E :=
  ⟨fun r q => dy.2 r (fun w => by rw [w] at q; cases q) (fun w => by rw [w] at q; cases q) (fun w => by rw [w] at q; cases q) (fun w => by rw [w] at q; cases q), fun j _ => by rw [dy.2 1 (by decide) (by decide) (by decide) (by decide)]⟩
/-- thought begins with what is in deed -/
theorem dy_now {Dc Dm D E : td_D} (hR : lw_R Dc Dm) (dy : dy_o Dc Dm D E) (h6 : D 6 = Dc 6) : dy_o Dc Dm (td_cpy D 6 0 22 0 30) (cp_o E 4 21 0 30) ∧ td_cpy D 6 0 22 0 30 6 = Dc 6 ∧ p_th (Dc 2 0) (Dc 2 1) (td_cpy D 6 0 22 0 30 22) (cp_o E 4 21 0 30 21) := by
  obtain ⟨⟨l1, l2, l3, lon, lce, lsh, lz, -⟩, -⟩ := id hR
  refine ⟨⟨fun r r1 r2 r3 r4 r5 => (tc_row r5).trans (dy.1 r r1 r2 r3 r4 r5), fun r r1 r2 r3 r4 => (cp_row r3).trans (dy.2 r r1 r2 r3 r4)⟩, (tc_row (by decide)).trans h6, fun i hi => ?_, fun h p h1 h2 h3 => ?_⟩
  · rw [tc_at, cp_at, if_pos (by omega), if_pos (by omega), h6, show 0 + (i - 0) = i by omega, dy.2 4 (by decide) (by decide) (by decide) (by decide)]
    exact lsh i hi
  · rw [tc_at, if_pos (by omega), h6, show 0 + (6 * h + p - 0) = 6 * h + p by omega]
    exact lz h p h1 h2 h3
theorem fe_now {D : td_D} : F_X7_copyFrom 21 5 D = some (0, td_cpy D 6 0 22 0 30) := fe_copy
/-- later -/
theorem lk_later {hp n : Int} {Dc Dm : td_D} (hR : lw_R Dc Dm) (hi : tv_in hp) (h0 : 0 ≤ hp) (h2 : hp / 10 < Dc 2 1) (n2 : n ≤ 60) (hp2 : hp % 10 < Dc 2 0 ∨ 8 ≤ hp % 10) : ∀ (m : Nat) (v : Int) (D E : td_D), 0 ≤ v → v ≤ 61 → 61 - v < m → dy_o Dc Dm D E → D 6 = Dc 6 → p_th (Dc 2 0) (Dc 2 1) (D 22) (E 21) → lk_s (F_X11_later_83 m n (hp / 10) (hp % 10) v D) (F_X12_later_59 m hp n (hp / 10) v E) Dc Dm := by
  obtain ⟨⟨⟨l1, l1a, l1b⟩, ⟨l2, l2a, l2b⟩, -⟩, ⟨-, ⟨s2, s2a, s2b⟩, -⟩, -⟩ := id hR
  intro m
  induction m with
  | zero => intro v D E q1 q2 q3; omega
  | succ m ih =>
    intro v D E q1 q2 q3 dy h6 ht
    unfold F_X11_later_83 F_X12_later_59
    by_cases c : n ≤ v
    · have hf : ∀ i : Nat, i < 30 → 0 ≤ D 22 i ∧ D 22 i ≤ 99 := fun i hi => (ht.1 i hi).2
      have A := fe_allIn (q := 21) (h := hp / 10) (D := D) (by rw [tr_21]; exact hf) (by omega) (by omega)
      rw [tr_21] at A
      have e11 : E 1 1 = Dc 2 0 := by rw [dy.2 1 (by decide) (by decide) (by decide) (by decide)]; exact l1
      have B := fm_allIn (D := E) ht e11 (h := hp / 10) (by omega) (by omega) l1a l1b
      have ab := al_b hf (h := hp / 10) (by omega) (by omega)
      have d2 : D 2 10 = Dc 2 10 := by rw [dy.1 2 (by decide) (by decide) (by decide) (by decide) (by decide)]
      have e8 : E 8 1 = Dc 2 10 := by rw [dy.2 8 (by decide) (by decide) (by decide) (by decide)]; exact s2
      have fb := fo_b ab.1 s2a
      rw [if_pos c, if_pos c, tv_rme h0]
      by_cases c9 : hp % 10 = 9
      · rw [if_pos c9, if_pos c9, A, B, td_bs, td_bs]
        exact lk_1 rfl (dy_fc dy h6) (dy_fm dy)
      · rw [if_neg c9, if_neg c9, B, td_bs, fm_stingsTo ab.1 (by omega) (by omega), td_bs, e8]
        by_cases c8 : hp % 10 = 8
        · unfold F_X11_farOrNot
          rw [if_pos c8, if_pos (show 8 ≤ hp % 10 by omega), A, td_bs, fe_farOf ab.1 (by omega) (by omega), td_bs, d2]
          by_cases z : 0 ≤ fo_o (al_o (D 22) (hp / 10)) (Dc 2 10)
          · rw [if_pos z, if_pos z, td_bs]
            exact lk_1 rfl (dy_fc dy h6) (dy_fm dy)
          · rw [if_neg z, if_neg z, td_bs]
            exact lk_1 rfl (dy_fc dy h6) (dy_fm dy)
        · rw [if_neg c8, if_neg (show ¬ 8 ≤ hp % 10 by omega), fe_share (by omega) (by omega) (by omega) (by omega), td_bs, tr_21, tw_s (a := 6 * (hp / 10)) (by omega) (by omega), tw_s (a := 6 * (hp / 10) + hp % 10) (by omega) (by omega), if_pos (by omega)]
          exact lk_1 (ht.1 _ (by omega)).1.symm (dy_fc dy h6) (dy_fm dy)
    · obtain ⟨k, D', E', a1, a2, a3, a4, a5, a6, a7⟩ := lk_day (q := 21) (h := hp / 10) (d := v) tr_21 (Or.inr rfl) hR dy ht (by omega) h2
      rw [if_neg c, if_neg c, a1, a2, td_bs, td_bs, tw_s (a := v + 1) (by omega) (by omega)]
      exact ih (v + 1) D' E' (by omega) (by omega) (by omega) a4 ((a6 6 (by decide) (by decide) (by decide) (by decide)).trans h6) a5
theorem st_8 : ls_8 lw_R := by
  intro a1 a2 Dc Dm i1 _ _ hR
  obtain ⟨⟨⟨l1, l1a, l1b⟩, ⟨l2, l2a, l2b⟩, -⟩, -⟩ := id hR
  refine lk_R ?_ hR
  unfold F_X11_later F_X12_later F_X11_later_66 F_X12_later_35
  by_cases c0 : a1 < 0
  · rw [if_pos c0, if_pos c0]
    exact lk_0 rfl
  have i2 := i1.2
  obtain ⟨n1, n2, n3⟩ := dy_now (D := Dc) (E := Dm) hR ⟨fun _ _ _ _ _ _ => rfl, fun _ _ _ _ _ => rfl⟩ rfl
  rw [if_neg c0, if_neg c0, tv_dv (by omega) i2 (by omega), tv_rme (by omega), fe_isHive, td_bs, fm_isHive _ (by omega), td_bs, l2]
  simp only [fe_isPerson, fm_isPerson _ (show 0 ≤ Dm 1 1 ∧ Dm 1 1 ≤ 6 by omega), tb_s, tf_0, l1, fm_in, fe_now, fm_layNow]
  by_cases c1 : 0 ≤ a1 / 10 ∧ a1 / 10 < Dc 2 1
  · have nn1 : ¬ ¬ (0 ≤ a1 / 10 ∧ a1 / 10 < Dc 2 1) := fun q => q c1
    simp only [if_neg nn1]
    by_cases c2 : 0 ≤ a2 ∧ a2 ≤ 60
    · have nn2 : ¬ ¬ (0 ≤ a2 ∧ a2 ≤ 60) := fun q => q c2
      simp only [if_neg nn2, if_neg (show ¬ a2 < 0 by omega), if_pos c2.2]
      have L := fun w => lk_later hR i1 (show 0 ≤ a1 by omega) c1.2 c2.2 w tf_N 0 _ _ (by omega) (by omega) (by unfold tf_N; omega) n1 n2 n3
      by_cases c3 : 0 ≤ a1 % 10 ∧ a1 % 10 < Dc 2 0
      · have nn3 : ¬ ¬ (0 ≤ a1 % 10 ∧ a1 % 10 < Dc 2 0) := fun q => q c3
        simp only [if_neg nn3, if_neg (show ¬ a1 % 10 = 8 by omega), if_neg (show ¬ a1 % 10 = 9 by omega)]
        exact L (Or.inl c3.2)
      · simp only [if_pos c3]
        by_cases c4 : a1 % 10 < 8
        · simp only [if_pos c4, if_neg (show ¬ a1 % 10 = 8 by omega), if_neg (show ¬ a1 % 10 = 9 by omega)]
          exact lk_0 rfl
        · simp only [if_neg c4]
          have l8 := L (Or.inr (by omega))
          by_cases c5 : a1 % 10 = 8
          · simp only [if_pos c5]
            exact l8
          · simp only [if_neg c5, if_pos (show a1 % 10 = 9 by omega)]
            exact l8
    · simp only [if_pos c2]
      by_cases c3 : 0 ≤ a1 % 10 ∧ a1 % 10 < Dc 2 0
      · have nn3 : ¬ ¬ (0 ≤ a1 % 10 ∧ a1 % 10 < Dc 2 0) := fun q => q c3
        simp only [if_neg nn3]
        by_cases c4 : a2 < 0
        · simp only [if_pos c4]
          exact lk_0 rfl
        · simp only [if_neg c4, if_neg (show ¬ a2 ≤ 60 by omega)]
          exact lk_0 rfl
      · simp only [if_pos c3]
        by_cases c4 : a2 < 0
        · simp only [if_pos c4]
          split <;> exact lk_0 rfl
        · simp only [if_neg c4, if_neg (show ¬ a2 ≤ 60 by omega)]
          split <;> exact lk_0 rfl
  · simp only [if_pos c1]
    exact lk_0 rfl
/-- still -/
theorem lk_still {h : Int} {Dc Dm : td_D} (hR : lw_R Dc Dm) (h1 : 0 ≤ h) (h2 : h < Dc 2 1) : ∀ (m : Nat) (v : Int) (D E : td_D), 0 ≤ v → v ≤ 100 → 100 - v < m → dy_o Dc Dm D E → D 6 = Dc 6 → p_th (Dc 2 0) (Dc 2 1) (D 22) (E 21) → lk_s (F_X11_still_29 m h v D) (F_X12_still_16 m h v E) Dc Dm := by
  intro m
  induction m with
  | zero => intro v D E q1 q2 q3; omega
  | succ m ih =>
    intro v D E q1 q2 q3 dy h6 ht
    unfold F_X11_still_29 F_X12_still_16
    by_cases c : 99 < v
    · rw [if_pos c, if_pos c]
      exact lk_1 rfl (dy_fc dy h6) (dy_fm dy)
    · obtain ⟨k, D', E', a1, a2, a3, a4, a5, a6, a7⟩ := lk_day (q := 21) (h := h) (d := v) tr_21 (Or.inr rfl) hR dy ht h1 h2
      have h6' : D' 6 = Dc 6 := (a6 6 (by decide) (by decide) (by decide) (by decide)).trans h6
      rw [if_neg c, if_neg c, a1, a2, td_bs, td_bs, tw_s (a := v + 1) (by omega) (by omega)]
      split
      · exact lk_1 rfl (dy_fc a4 h6') (dy_fm a4)
      · exact ih (v + 1) D' E' (by omega) (by omega) (by omega) a4 h6' a5
theorem st_9 : ls_9 lw_R := by
  intro a1 Dc Dm _ _ hR
  obtain ⟨⟨⟨l1, l1a, l1b⟩, ⟨l2, l2a, l2b⟩, -⟩, -⟩ := id hR
  refine lk_R ?_ hR
  unfold F_X11_still F_X12_still
  obtain ⟨n1, n2, n3⟩ := dy_now (D := Dc) (E := Dm) hR ⟨fun _ _ _ _ _ _ => rfl, fun _ _ _ _ _ => rfl⟩ rfl
  simp only [fe_isHive, fm_isHive _ (show 0 ≤ Dm 1 3 ∧ Dm 1 3 ≤ 5 by omega), tb_s, tf_0, l2, fe_now, fm_layNow]
  by_cases c1 : 0 ≤ a1 ∧ a1 < Dc 2 1
  · have nn1 : ¬ ¬ (0 ≤ a1 ∧ a1 < Dc 2 1) := fun q => q c1
    simp only [if_neg nn1]
    exact lk_still hR c1.1 c1.2 tf_N 0 _ _ (by omega) (by omega) (by unfold tf_N; omega) n1 n2 n3
  · simp only [if_pos c1]
    exact lk_0 rfl
/-- a day of every hive -/
def py_o : Nat → Nat → Int → Int → td_D → Option (Int × td_D)
  | 0, _, _, _, _ => none
  | n + 1, v1, v2, v3, D => if D 2 1 ≤ v3 then some (0, D) else td_b (F_X11_passDay v1 v3 v2 D) fun _ D2 => py_o n v1 v2 (tv_w (v3 + 1)) D2
theorem tb_b {F : Option (Int × td_D)} {K K' : Int → td_D → Option (Int × td_D)} : td_b (td_b F K) K' = td_b F fun r D => td_b (K r D) K' := by
  cases F with
  | none => rfl
  | some q => rfl
theorem fe_day_2 : ∀ (m : Nat) (v : Int) (D : td_D), F_X11_day_2 m v D = td_b (py_o m 5 0 v D) fun _ D2 => td_l (td_upd D2 42 (Int.toNat 2) (tv_w (D2 42 (Int.toNat 2) + 1))) fun D3 => td_b (F_X7_allInAll 5 D3) fun r4 D5 => some (r4, D5) := by
  intro m
  induction m with
  | zero => intro v D; rfl
  | succ m ih =>
    intro v D
    unfold F_X11_day_2 py_o
    by_cases c : D 2 1 ≤ v
    · rw [if_pos c, if_pos c, td_bs]
    · rw [if_neg c, if_neg c, tb_b]
      simp only [ih]
/-- day -/
theorem lk_every {q r : Nat} {d : Int} {Dc Dm : td_D} (hqr : td_r g_c q 0 = r) (hr : r = 6 ∨ r = 22) (hR : lw_R Dc Dm) : ∀ (m : Nat) (v : Int) (D E : td_D), 0 ≤ v → v ≤ Dc 2 1 → Dc 2 1 - v < m → dy_o Dc Dm D E → p_th (Dc 2 0) (Dc 2 1) (D r) (E 21) → ∃ D' E' : td_D, py_o m q d v D = some (0, D') ∧ (d = 0 → F_X12_day_6 m v E = F_X12_day_29 tf_N 0 E') ∧ (∀ (k53 : Int → Int → Int → Int → Int → Int → td_D → Option (Int × td_D)) (k69 : Int → Int → Int → Int → Int → Int → Int → td_D → Option (Int × td_D)) (v2 v3 v4 v5 v6 v7 : Int), F_X12_drawn_151 k53 k69 m v2 v3 v4 v5 v6 v7 d v E = k69 v2 v3 v4 v5 v6 v7 (tv_w (d + 1)) E') ∧ dy_o Dc Dm D' E' ∧ p_th (Dc 2 0) (Dc 2 1) (D' r) (E' 21) ∧ (∀ x : Nat, x ≠ r → x ≠ 15 → x ≠ 19 → x ≠ 20 → D' x = D x) ∧ ∀ x : Nat, x ≠ 19 → x ≠ 20 → x ≠ 21 → x ≠ 22 → E' x = E x := by
  obtain ⟨⟨⟨l1, l1a, l1b⟩, ⟨l2, l2a, l2b⟩, -⟩, -⟩ := id hR
  intro m
  induction m with
  | zero => intro v D E q1 q2 q3; omega
  | succ m ih =>
    intro v D E q1 q2 q3 dy ht
    have d2 : D 2 1 = Dc 2 1 := by rw [dy.1 2 (by decide) (by decide) (by decide) (by decide) (by decide)]
    have e13 : E 1 3 = Dc 2 1 := by rw [dy.2 1 (by decide) (by decide) (by decide) (by decide)]; exact l2
    by_cases c : Dc 2 1 ≤ v
    · refine ⟨D, E, ?_, fun _ => ?_, fun k53 k69 v2 v3 v4 v5 v6 v7 => ?_, dy, ht, fun _ _ _ _ _ => rfl, fun _ _ _ _ _ => rfl⟩
      · unfold py_o
        rw [d2, if_pos c]
      · unfold F_X12_day_6
        rw [e13, if_pos c]
      · unfold F_X12_drawn_151
        rw [e13, if_pos c]
    · obtain ⟨k, D1, E1, a1, a2, a3, a4, a5, a6, a7⟩ := lk_day (h := v) (d := d) hqr hr hR dy ht q1 (by omega)
      obtain ⟨D', E', b1, b2, b3, b4, b5, b6, b7⟩ := ih (v + 1) D1 E1 (by omega) (by omega) (by omega) a4 a5
      refine ⟨D', E', ?_, fun hd => ?_, fun k53 k69 v2 v3 v4 v5 v6 v7 => ?_, b4, b5, fun x x1 x2 x3 x4 => (b6 x x1 x2 x3 x4).trans (a6 x x1 x2 x3 x4), fun x x1 x2 x3 x4 => (b7 x x1 x2 x3 x4).trans (a7 x x1 x2 x3 x4)⟩
      · unfold py_o
        rw [d2, if_neg c, a1, td_bs, tw_s (a := v + 1) (by omega) (by omega)]
        exact b1
      · unfold F_X12_day_6
        rw [hd] at a2
        rw [e13, if_neg c, a2, td_bs, tw_s (a := v + 1) (by omega) (by omega)]
        exact b2 hd
      · unfold F_X12_drawn_151
        rw [e13, if_neg c, a2, td_bs, tw_s (a := v + 1) (by omega) (by omega)]
        exact b3 k53 k69 v2 v3 v4 v5 v6 v7
theorem fm_day_29 : ∀ (m : Nat) (v : Int) (D : td_D), 0 ≤ v → v ≤ 30 → 30 - v < m → F_X12_day_29 m v D = td_l (td_upd (cp_o D 21 4 v 30) 31 (Int.toNat 2) (tv_w (cp_o D 21 4 v 30 31 (Int.toNat 2) + 1))) fun D1 => td_b (F_X12_allOfAll D1) fun r2 D3 => some (r2, D3) := by
  intro m
  induction m with
  | zero => intro v D h1 h2 h3; omega
  | succ m ih =>
    intro v D h1 h2 h3
    unfold F_X12_day_29
    by_cases c : 30 ≤ v
    · rw [if_pos c, cp_end c]
    · rw [if_neg c, if_pos (by omega), td_ls, tw_s (a := v + 1) (by omega) (by omega), ih _ _ (by omega) (by omega) (by omega), cp_step h1 (by omega) (by decide)]
theorem st_27 : ls_27 lw_R := by
  intro Dc Dm _ hR
  obtain ⟨⟨⟨l1, l1a, l1b⟩, ⟨l2, l2a, l2b⟩, ⟨l3, l3a, l3b⟩, lon, lce, lsh, lz, -⟩, -, -, -, -, hg, -⟩ := id hR
  unfold F_X11_day F_X12_day
  have ht0 := th_now hR
  obtain ⟨D', E', a1, a2, -, a4, a5, a6, a7⟩ := lk_every (q := 5) (r := 6) (d := 0) tr_5 (Or.inl rfl) hR tf_N 0 Dc (cp_o Dm 4 21 0 30) (by omega) l2a (by unfold tf_N; omega) ⟨fun _ _ _ _ _ _ => rfl, fun x x1 x2 x3 x4 => cp_row x3⟩ ht0
  rw [fe_day_2, a1, td_bs, td_ls, fm_layNow, td_bs, a2 rfl, fm_day_29 tf_N 0 E' (by omega) (by omega) (by unfold tf_N; omega), td_ls]
  have d42 : D' 42 = Dc 42 := a4.1 42 (by decide) (by decide) (by decide) (by decide) (by decide)
  have e31 : E' 31 = Dm 31 := a4.2 31 (by decide) (by decide) (by decide) (by decide)
  have hf : ∀ i : Nat, i < 30 → 0 ≤ D' 6 i ∧ D' 6 i ≤ 99 := fun i hi => (a5.1 i hi).2
  have A := fe_all (q := 5) (D := td_upd D' 42 (Int.toNat 2) (tv_w (D' 42 (Int.toNat 2) + 1))) (by rw [tr_5, tu_row (by decide)]; exact hf)
  rw [tr_5, tu_row (by decide)] at A
  have e1 : E' 1 = Dm 1 := a4.2 1 (by decide) (by decide) (by decide) (by decide)
  have B := fm_all (pe := Dc 2 0) (hi := Dc 2 1) (f := D' 6) (D := td_upd (cp_o E' 21 4 0 30) 31 (Int.toNat 2) (tv_w (cp_o E' 21 4 0 30 31 (Int.toNat 2) + 1))) (by rw [tu_row (by decide), cp_row (by decide)]; exact a5) (by rw [tu_row (by decide), cp_row (by decide), e1]; exact l1) (by rw [tu_row (by decide), cp_row (by decide), e1]; exact l2) l1a l1b l2a l2b
  rw [A, B, td_bs, td_bs]
  refine lw_rt rfl ?_
  have X := lw_mv (Dc' := fun r => if r = 6 then D' 6 else if r = 42 then tv_up (Dc 42) (Int.toNat 2) (tv_w (Dc 42 (Int.toNat 2) + 1)) else Dc r) (Dm' := fun r => if r = 4 then cp_o E' 21 4 0 30 4 else if r = 31 then tv_up (Dm 31) (Int.toNat 2) (tv_w (Dm 31 (Int.toNat 2) + 1)) else Dm r) hR (fun r x1 x2 x3 => by simp only [if_neg x2, if_neg x3]) (fun r x1 x2 x3 => by simp only [if_neg x2, if_neg x3]) (fun i hi => lon i hi) (fun i hi => by
      show cp_o E' 21 4 0 30 4 i = D' 6 i ∧ 0 ≤ D' 6 i ∧ D' 6 i ≤ 99
      rw [cp_at, if_pos (by omega)]
      exact a5.1 i hi) (fun h p x1 x2 x3 => a5.2 h p x1 x2 x3) (up_led hg (by rw [hg (Int.toNat 2) (by decide)]))
  refine fr_R X ⟨fun r q => ?_, ?_⟩ ⟨fun r q => ?_, fun j q => ?_⟩
  · by_cases z : r = 6
    · subst z
      rw [tu_row (by decide)]
      rfl
    · by_cases z2 : r = 42
      · subst z2
        rw [tu_at, d42]
        rfl
      · rw [tu_row z2]
        show D' r = if r = 6 then D' 6 else if r = 42 then _ else Dc r
        rw [if_neg z, if_neg z2]
        exact a4.1 r z (fun w => by rw [w] at q; cases q) (fun w => by rw [w] at q; cases q) (fun w => by rw [w] at q; cases q) (fun w => by rw [w] at q; cases q)
  · rw [tu_row (by decide)]
    show D' 10 1 = Dc 10 1
    rw [a4.1 10 (by decide) (by decide) (by decide) (by decide) (by decide)]
  · by_cases z : r = 4
    · subst z
      rw [tu_row (by decide)]
      rfl
    · by_cases z2 : r = 31
      · subst z2
        rw [tu_at, cp_row (by decide), e31]
        rfl
      · rw [tu_row z2, cp_row z]
        show E' r = if r = 4 then _ else if r = 31 then _ else Dm r
        rw [if_neg z, if_neg z2]
        exact a4.2 r (fun w => by rw [w] at q; cases q) (fun w => by rw [w] at q; cases q) (fun w => by rw [w] at q; cases q) (fun w => by rw [w] at q; cases q)
  · rw [tu_row (by decide), cp_row (by decide)]
    show E' 1 j = Dm 1 j
    rw [e1]
