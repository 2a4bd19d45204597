/-- marry -/
theorem st_29 : ls_29 lw_R := by
  intro a1 Dc Dm h1 _ hR
  obtain ⟨⟨⟨l1, l1a, l1b⟩, ⟨l2, l2a, l2b⟩, ⟨l3, l3a, l3b⟩, lon, lce, lsh, lz, lnd, lmo, lwo, lnm⟩, hs, ht, hw, hc, hg, -⟩ := id hR
  unfold F_X11_marry F_X12_marry
  by_cases c0 : a1 < 0
  · simp only [if_pos c0]
    exact lw_rt rfl hR
  have h2 := h1.2
  simp only [if_neg c0, fe_isPerson, fm_isPerson _ (show 0 ≤ Dm 1 1 ∧ Dm 1 1 ≤ 6 by omega), td_bs, tf_0, l1]
  simp (disch := omega) only [tv_dv, tv_rme]
  by_cases c1 : 0 ≤ a1 / 10 ∧ a1 / 10 < Dc 2 0
  · by_cases c2 : 0 ≤ a1 % 10 ∧ a1 % 10 < Dc 2 0
    · by_cases c3 : a1 / 10 = a1 % 10
      · simp (disch := omega) only [if_pos, if_neg]
        exact lw_rt rfl hR
      · unfold F_X12_marry_61
        have bo := lon (a1 / 10).toNat (by omega)
        have bp := lon (a1 % 10).toNat (by omega)
        have g5 := hg (Int.toNat 5) (by decide)
        simp (disch := omega) only [tv_dv, tv_rme, tw_s]
        generalize a1 / 10 = o at *
        generalize a1 % 10 = p at *
        simp only [if_neg (show ¬ ¬ (0 ≤ o ∧ o < Dc 2 0) from fun q => q c1), if_neg (show ¬ ¬ (0 ≤ p ∧ p < Dc 2 0) from fun q => q c2), if_neg c3]
        by_cases c4 : p ≤ o
        · have e1 : tv_max o p = o := by unfold tv_max; rw [if_neg (by omega)]
          have e2 : tv_min o p = p := by unfold tv_min; rw [if_pos (by omega)]
          rw [e1, e2, show o + p - p = o by omega]
          simp (disch := omega) only [if_pos, td_ls, tw_s]
          simp (disch := first | decide | omega) only [tu_row, tu_at, tu_same, tu_ne, if_pos, bo.1, bp.1, g5]
          simp (disch := omega) only [tw_s, tv_dv]
          refine lw_rt (by omega) (lw_mv hR (fun r x1 x2 x3 => by rw [tu_row x3, tu_row x1, tu_row x1]) (fun r x1 x2 x3 => by rw [tu_row x3, tu_row x1, tu_row x1]) ?_ ?_ ?_ ?_) <;> simp (disch := decide) only [tu_row, tu_at, tu_same, tu_ne]
          · intro i hi
            have b := lon i hi
            unfold tv_up
            by_cases q1 : i = o.toNat
            · simp (disch := omega) only [if_pos, if_neg]
              omega
            · by_cases q2 : i = p.toNat
              · simp (disch := omega) only [if_pos, if_neg]
                first | omega | (simp only [true_and]; omega)
              · simp (disch := omega) only [if_pos, if_neg]
                exact b
          · exact lsh
          · exact lz
          · exact up_led hg rfl
        · have e1 : tv_max o p = p := by unfold tv_max; rw [if_pos (by omega)]
          have e2 : tv_min o p = o := by unfold tv_min; rw [if_neg (by omega)]
          rw [e1, e2, show o + p - o = p by omega]
          simp (disch := omega) only [if_pos, if_neg, td_ls, tw_s]
          simp (disch := first | decide | omega) only [tu_row, tu_at, tu_same, tu_ne, if_pos, bo.1, bp.1, g5]
          simp (disch := omega) only [tw_s, tv_dv]
          refine lw_rt (by omega) (lw_mv hR (fun r x1 x2 x3 => by rw [tu_row x3, tu_row x1, tu_row x1]) (fun r x1 x2 x3 => by rw [tu_row x3, tu_row x1, tu_row x1]) ?_ ?_ ?_ ?_) <;> simp (disch := decide) only [tu_row, tu_at, tu_same, tu_ne]
          · intro i hi
            have b := lon i hi
            unfold tv_up
            by_cases q1 : i = o.toNat
            · simp (disch := omega) only [if_pos, if_neg]
              omega
            · by_cases q2 : i = p.toNat
              · simp (disch := omega) only [if_pos, if_neg]
                first | omega | (simp only [true_and]; omega)
              · simp (disch := omega) only [if_pos, if_neg]
                exact b
          · exact lsh
          · exact lz
          · exact up_led hg rfl
    · simp (disch := omega) only [if_pos, if_neg]
      exact lw_rt rfl hR
  · simp only [if_pos c1]
    exact lw_rt rfl hR
/-- loops that copy a row -/
def cp_o (D : td_D) (r0 r1 : Nat) (v N : Int) : td_D := fun r j => if r = r1 ∧ v ≤ (j : Int) ∧ (j : Int) < N then D r0 j else D r j
theorem cp_row {D : td_D} {r0 r1 r : Nat} {v N : Int} (h : r ≠ r1) : cp_o D r0 r1 v N r = D r := by
  funext j
  show (if _ then _ else _) = _
  rw [if_neg (fun q => h q.1)]
theorem cp_at {D : td_D} {r0 r1 j : Nat} {v N : Int} : cp_o D r0 r1 v N r1 j = if v ≤ (j : Int) ∧ (j : Int) < N then D r0 j else D r1 j := by
  show (if _ then _ else _) = _
  by_cases h : v ≤ (j : Int) ∧ (j : Int) < N
  · rw [if_pos ⟨rfl, h⟩, if_pos h]
  · rw [if_neg (fun q => h q.2), if_neg h]
theorem cp_end {D : td_D} {r0 r1 : Nat} {v N : Int} (h : N ≤ v) : cp_o D r0 r1 v N = D := by
  funext r j
  show (if _ then _ else _) = _
  rw [if_neg (by omega)]
theorem cp_step {D : td_D} {r0 r1 : Nat} {v N : Int} (h : 0 ≤ v) (h1 : v < N) (hr : r0 ≠ r1) : cp_o (td_upd D r1 v.toNat (D r0 v.toNat)) r0 r1 (v + 1) N = cp_o D r0 r1 v N := by
  funext r j
  by_cases c : r = r1
  · subst c
    rw [cp_at, cp_at, tu_row hr, tu_at]
    unfold tv_up
    by_cases c2 : v + 1 ≤ (j : Int) ∧ (j : Int) < N
    · rw [if_pos c2, if_pos (by omega)]
    · rw [if_neg c2]
      by_cases c3 : j = v.toNat
      · rw [if_pos c3, if_pos (by omega), c3]
      · rw [if_neg c3, if_neg (by omega)]
  · rw [cp_row c, cp_row c, tu_row c]
theorem fm_image_77 : ∀ (m : Nat) (v : Int) (D : td_D), 0 ≤ v → v ≤ 6 → 6 - v < m → F_X12_image_77 m v D = some (cp_o D 31 34 v 6 31 2, cp_o D 31 34 v 6) := by
  intro m
  induction m with
  | zero => intro v D h1 h2 h3; omega
  | succ m ih =>
    intro v D h1 h2 h3
    unfold F_X12_image_77
    by_cases c : 6 ≤ v
    · rw [if_pos c, cp_end c]; rfl
    · simp (disch := omega) only [if_pos, if_neg, td_ls, tw_s]
      rw [ih _ _ (by omega) (by omega) (by omega), cp_step h1 (by omega) (by decide)]
theorem fm_image_51 : ∀ (m : Nat) (v : Int) (D : td_D), 0 ≤ v → v ≤ 30 → 30 - v < m → F_X12_image_51 m v D = F_X12_image_77 tf_N 0 (cp_o D 4 33 v 30) := by
  intro m
  induction m with
  | zero => intro v D h1 h2 h3; omega
  | succ m ih =>
    intro v D h1 h2 h3
    unfold F_X12_image_51
    by_cases c : 30 ≤ v
    · rw [if_pos c, cp_end c]
    · simp (disch := omega) only [if_pos, if_neg, td_ls, tw_s]
      rw [ih _ _ (by omega) (by omega) (by omega), cp_step h1 (by omega) (by decide)]
theorem fm_image_23 : ∀ (m : Nat) (v : Int) (D : td_D), 0 ≤ v → v ≤ D 1 1 → D 1 1 ≤ 6 → D 1 1 - v < m → F_X12_image_23 m v D = F_X12_image_51 tf_N 0 (cp_o D 2 32 v (D 1 1)) := by
  intro m
  induction m with
  | zero => intro v D h1 h2 h3; omega
  | succ m ih =>
    intro v D h1 h2 h3 h4
    unfold F_X12_image_23
    by_cases c : D 1 1 ≤ v
    · rw [if_pos c, cp_end c]
    · simp (disch := omega) only [if_pos, if_neg, td_ls, tw_s]
      have e : td_upd D 32 v.toNat (D 2 v.toNat) 1 = D 1 := tu_row (by decide)
      rw [ih _ _ (by omega) (by rw [e]; omega) (by rw [e]; omega) (by rw [e]; omega), e, cp_step h1 (by omega) (by decide)]
theorem tc_at {D : td_D} {r0 sp r1 dp n j : Nat} : td_cpy D r0 sp r1 dp n r1 j = if dp ≤ j ∧ j < dp + n then D r0 (sp + (j - dp)) else D r1 j := by
  show (if _ then _ else _) = _
  by_cases h : dp ≤ j ∧ j < dp + n
  · rw [if_pos ⟨rfl, h⟩, if_pos h]
  · rw [if_neg (fun q => h q.2), if_neg h]
theorem fe_copy {p q : Nat} {D : td_D} : F_X7_copyFrom p q D = some (0, td_cpy D (td_r g_c q 0) 0 (td_r g_c p 0) 0 30) := rfl
/-- image -/
theorem st_31 : ls_31 lw_R := by
  intro Dc Dm _ hR
  obtain ⟨⟨⟨l1, l1a, l1b⟩, ⟨l2, l2a, l2b⟩, ⟨l3, l3a, l3b⟩, lon, lce, lsh, lz, lnd, lmo, lwo, lnm⟩, hs, ht, hw, hc, hg, hi, hb, hh⟩ := id hR
  unfold F_X11_image F_X12_image F_X2_take
  simp only [td_ls]
  have e : td_upd (td_upd (td_upd Dm 1 44 1) 1 45 (td_upd Dm 1 44 1 1 1)) 1 46 (td_upd (td_upd Dm 1 44 1) 1 45 (td_upd Dm 1 44 1 1 1) 1 3) 1 1 = Dc 2 0 := by
    simp (disch := decide) only [tu_row, tu_at, tu_same, tu_ne]
    exact l1
  rw [fm_image_23 tf_N 0 _ (by omega) (by rw [e]; omega) (by rw [e]; omega) (by rw [e]; unfold tf_N; omega), e, fm_image_51 tf_N 0 _ (by omega) (by omega) (by unfold tf_N; omega), fm_image_77 tf_N 0 _ (by omega) (by omega) (by unfold tf_N; omega)]
  simp (disch := decide) only [tu_row, tu_at, tu_same, tu_ne]
  rw [if_pos (by omega), fe_copy, td_bs, tr_5, tr_39, if_pos (by decide), td_bs]
  refine lw_rt ?_ ?_
  · simp (disch := decide) only [tc_row, cp_row, tu_row, tu_at, tu_same, tu_ne]
    exact (hg 2 (by omega)).symm
  · unfold lw_R
    simp (disch := decide) only [tc_row, cp_row, tu_row, tu_at, tu_same, tu_ne]
    refine ⟨⟨⟨l1, l1a, l1b⟩, ⟨l2, l2a, l2b⟩, ⟨l3, l3a, l3b⟩, lon, lce, lsh, lz, lnd, lmo, lwo, lnm⟩, hs, ht, hw, hc, hg, ?_, hb, hh⟩
    refine ⟨rfl, by omega, fun _ => ⟨by omega, by omega, fun i hi => ?_, fun i hi => ?_, fun h p q1 q2 q3 => ?_, fun i hi => ?_⟩⟩
    · simp (disch := decide) only [tc_row, cp_row, tu_row, tc_at, cp_at, tu_at, tu_same, tu_ne]
      simp (disch := omega) only [if_pos]
      have b := lon i (by omega)
      rw [show Int.toNat 0 + (i - Int.toNat 0) = i from (by show 0 + (i - 0) = i; omega)]
      exact b
    · simp (disch := decide) only [tc_row, cp_row, tu_row, tc_at, cp_at, tu_at, tu_same, tu_ne]
      simp (disch := omega) only [if_pos]
      rw [show 0 + (i - 0) = i by omega]
      exact lsh i hi
    · simp (disch := decide) only [tc_row, cp_row, tu_row, tc_at, cp_at, tu_at, tu_same, tu_ne]
      simp (disch := omega) only [if_pos]
      rw [show 0 + (6 * h + p - 0) = 6 * h + p by omega]
      exact lz h p q1 q2 (by omega)
    · simp (disch := decide) only [tc_row, cp_row, tu_row, tc_at, cp_at, tu_at, tu_same, tu_ne]
      simp (disch := omega) only [if_pos]
      rw [show Int.toNat 0 + (i - Int.toNat 0) = i from (by show 0 + (i - 0) = i; omega)]
      exact hg i hi
theorem fm_back_114 : ∀ (m : Nat) (v : Int) (D : td_D), 0 ≤ v → v ≤ 6 → 6 - v < m → F_X12_back_114 m v D = some (cp_o D 34 31 v 6 31 2, cp_o D 34 31 v 6) := by
  intro m
  induction m with
  | zero => intro v D h1 h2 h3; omega
  | succ m ih =>
    intro v D h1 h2 h3
    unfold F_X12_back_114
    by_cases c : 6 ≤ v
    · rw [if_pos c, cp_end c]; rfl
    · simp (disch := omega) only [if_pos, if_neg, td_ls, tw_s]
      rw [ih _ _ (by omega) (by omega) (by omega), cp_step h1 (by omega) (by decide)]
theorem fm_back_50 (k : Int → td_D → Option (Int × td_D)) {v1 : Int} (w1 : 0 ≤ v1) (w2 : v1 < 5) : ∀ (m : Nat) (v2 : Int) (D : td_D), 0 ≤ v2 → v2 ≤ D 1 1 → D 1 1 ≤ 6 → D 1 1 - v2 < m → ∃ D' : td_D, F_X12_back_50 k m v1 v2 D = k (v1 + 1) D' ∧ (∀ r : Nat, r ≠ 4 → D' r = D r) ∧ ∀ j : Nat, D' 4 j = if 6 * v1 + v2 ≤ (j : Int) ∧ (j : Int) < 6 * v1 + D 1 1 then (if v1 < D 1 46 ∧ (j : Int) - 6 * v1 < D 1 45 then D 33 j else 0) else D 4 j := by
  intro m
  induction m with
  | zero => intro v2 D h1 h2 h3; omega
  | succ m ih =>
    intro v2 D h1 h2 h3 h4
    unfold F_X12_back_50
    by_cases c : D 1 1 ≤ v2
    · simp (disch := omega) only [if_pos, tw_s]
      refine ⟨D, rfl, fun _ _ => rfl, fun j => ?_⟩
      rw [if_neg (by omega)]
    · simp (disch := omega) only [if_pos, if_neg, tw_s, td_ls]
      have go : ∀ x : Int, (x = if v1 < D 1 46 ∧ v2 < D 1 45 then D 33 (6 * v1 + v2).toNat else 0) → ∃ D' : td_D, F_X12_back_50 k m v1 (v2 + 1) (td_upd D 4 (6 * v1 + v2).toNat x) = k (v1 + 1) D' ∧ (∀ r : Nat, r ≠ 4 → D' r = D r) ∧ ∀ j : Nat, D' 4 j = if 6 * v1 + v2 ≤ (j : Int) ∧ (j : Int) < 6 * v1 + D 1 1 then (if v1 < D 1 46 ∧ (j : Int) - 6 * v1 < D 1 45 then D 33 j else 0) else D 4 j := by
        intro x hx
        have e : td_upd D 4 (6 * v1 + v2).toNat x 1 = D 1 := tu_row (by decide)
        have e3 : td_upd D 4 (6 * v1 + v2).toNat x 33 = D 33 := tu_row (by decide)
        obtain ⟨D', f1, f2, f3⟩ := ih (v2 + 1) (td_upd D 4 (6 * v1 + v2).toNat x) (by omega) (by rw [e]; omega) (by rw [e]; omega) (by rw [e]; omega)
        refine ⟨D', f1, fun r hr => (f2 r hr).trans (tu_row hr), fun j => ?_⟩
        rw [f3 j, e, e3, tu_at]
        unfold tv_up
        by_cases q : 6 * v1 + (v2 + 1) ≤ (j : Int) ∧ (j : Int) < 6 * v1 + D 1 1
        · have jn : ¬ j = (6 * v1 + v2).toNat := by omega
          have jn2 : 6 * v1 + v2 ≤ (j : Int) ∧ (j : Int) < 6 * v1 + D 1 1 := by omega
          simp only [if_pos q, if_neg jn, if_pos jn2]
        · by_cases q2 : j = (6 * v1 + v2).toNat
          · have jn2 : 6 * v1 + v2 ≤ (j : Int) ∧ (j : Int) < 6 * v1 + D 1 1 := by omega
            simp only [if_neg q, if_pos q2, if_pos jn2, hx, ← q2]
            by_cases q3 : v1 < D 1 46 ∧ v2 < D 1 45
            · have q4 : v1 < D 1 46 ∧ (j : Int) - 6 * v1 < D 1 45 := by omega
              simp only [if_true, if_pos q3, if_pos q4]
            · have q4 : ¬ (v1 < D 1 46 ∧ (j : Int) - 6 * v1 < D 1 45) := by omega
              simp only [if_true, if_neg q3, if_neg q4]
          · have jn2 : ¬ (6 * v1 + v2 ≤ (j : Int) ∧ (j : Int) < 6 * v1 + D 1 1) := by omega
            simp only [if_neg q, if_neg q2, if_neg jn2]
      by_cases c1 : D 1 46 ≤ v1
      · simp only [if_pos c1]
        exact go _ (by rw [if_neg (by omega)])
      · by_cases c2 : D 1 45 ≤ v2
        · simp only [if_neg c1, if_pos c2]
          exact go _ (by rw [if_neg (by omega)])
        · simp only [if_neg c1, if_neg c2]
          exact go _ (by rw [if_pos (by omega)])
theorem fm_back_40 : ∀ (m : Nat) (v1 : Int) (D : td_D), 0 ≤ v1 → v1 ≤ D 1 3 → D 1 3 ≤ 5 → 0 ≤ D 1 1 → D 1 1 ≤ 6 → D 1 3 - v1 < m → ∃ D' : td_D, F_X12_back_40 m v1 D = F_X12_back_114 tf_N 0 D' ∧ (∀ r : Nat, r ≠ 4 → D' r = D r) ∧ ∀ j : Nat, D' 4 j = if v1 ≤ (j : Int) / 6 ∧ (j : Int) / 6 < D 1 3 ∧ (j : Int) % 6 < D 1 1 then (if (j : Int) / 6 < D 1 46 ∧ (j : Int) % 6 < D 1 45 then D 33 j else 0) else D 4 j := by
  intro m
  induction m with
  | zero => intro v1 D h1 h2 h3; omega
  | succ m ih =>
    intro v1 D h1 h2 h3 h4 h5 h6
    unfold F_X12_back_40
    by_cases c : D 1 3 ≤ v1
    · rw [if_pos c]
      refine ⟨D, rfl, fun _ _ => rfl, fun j => ?_⟩
      rw [if_neg (by omega)]
    · rw [if_neg c]
      obtain ⟨D1, f1, f2, f3⟩ := fm_back_50 (fun v1 D => F_X12_back_40 m v1 D) h1 (by omega) tf_N 0 D (by omega) (by omega) h5 (by unfold tf_N; omega)
      have e := f2 1 (by decide)
      obtain ⟨D', g1, g2, g3⟩ := ih (v1 + 1) D1 (by omega) (by rw [e]; omega) (by rw [e]; omega) (by rw [e]; omega) (by rw [e]; omega) (by rw [e]; omega)
      refine ⟨D', f1.trans g1, fun r hr => (g2 r hr).trans (f2 r hr), fun j => ?_⟩
      rw [g3 j, e, f2 33 (by decide), f3 j]
      by_cases q : v1 + 1 ≤ (j : Int) / 6 ∧ (j : Int) / 6 < D 1 3 ∧ (j : Int) % 6 < D 1 1
      · have q2 : v1 ≤ (j : Int) / 6 ∧ (j : Int) / 6 < D 1 3 ∧ (j : Int) % 6 < D 1 1 := by omega
        simp only [if_pos q, if_pos q2]
      · by_cases q2 : 6 * v1 + 0 ≤ (j : Int) ∧ (j : Int) < 6 * v1 + D 1 1
        · have q5 : v1 ≤ (j : Int) / 6 ∧ (j : Int) / 6 < D 1 3 ∧ (j : Int) % 6 < D 1 1 := by omega
          simp only [if_neg q, if_pos q2, if_pos q5]
          by_cases q3 : v1 < D 1 46 ∧ (j : Int) - 6 * v1 < D 1 45
          · have q4 : (j : Int) / 6 < D 1 46 ∧ (j : Int) % 6 < D 1 45 := by omega
            simp only [if_true, if_pos q3, if_pos q4]
          · have q4 : ¬ ((j : Int) / 6 < D 1 46 ∧ (j : Int) % 6 < D 1 45) := by omega
            simp only [if_true, if_neg q3, if_neg q4]
        · have q5 : ¬ (v1 ≤ (j : Int) / 6 ∧ (j : Int) / 6 < D 1 3 ∧ (j : Int) % 6 < D 1 1) := by omega
          simp only [if_neg q, if_neg q2, if_neg q5]
theorem fm_back_12 : ∀ (m : Nat) (v : Int) (D : td_D), 0 ≤ v → v ≤ D 1 45 → D 1 45 ≤ 6 → D 1 45 - v < m → F_X12_back_12 m v D = F_X12_back_40 tf_N 0 (cp_o D 32 2 v (D 1 45)) := by
  intro m
  induction m with
  | zero => intro v D h1 h2 h3; omega
  | succ m ih =>
    intro v D h1 h2 h3 h4
    unfold F_X12_back_12
    by_cases c : D 1 45 ≤ v
    · rw [if_pos c, cp_end c]
    · simp (disch := omega) only [if_pos, if_neg, td_ls, tw_s]
      have e : td_upd D 2 v.toNat (D 32 v.toNat) 1 = D 1 := tu_row (by decide)
      rw [ih _ _ (by omega) (by rw [e]; omega) (by rw [e]; omega) (by rw [e]; omega), e, cp_step h1 (by omega) (by decide)]
/-- back -/
theorem st_32 : ls_32 lw_R := by
  intro Dc Dm _ hR
  obtain ⟨⟨⟨l1, l1a, l1b⟩, ⟨l2, l2a, l2b⟩, ⟨l3, l3a, l3b⟩, lon, lce, lsh, lz, lnd, lmo, lwo, lnm⟩, hs, ht, hw, hc, hg, ⟨i1, i2, i3⟩, hb, hh⟩ := id hR
  unfold F_X11_back F_X12_back F_X2_layBack
  by_cases c : Dc 37 0 = 0
  · rw [if_pos c, if_pos (by omega)]
    exact lw_rt rfl hR
  · obtain ⟨⟨j1, j1a, j1b⟩, ⟨j2a, j2b⟩, jon, jsh, jz, jle⟩ := i3 (by omega)
    simp (disch := omega) only [if_neg, if_pos, td_ls]
    rw [fe_copy, td_bs, tr_5, tr_39, td_bs, fm_back_12 tf_N 0 Dm (by omega) (by omega) (by omega) (by unfold tf_N; omega)]
    obtain ⟨D', f1, f2, f3⟩ := fm_back_40 tf_N 0 (cp_o Dm 32 2 0 (Dm 1 45)) (by omega) (by rw [cp_row (by decide)]; omega) (by rw [cp_row (by decide)]; omega) (by rw [cp_row (by decide)]; omega) (by rw [cp_row (by decide)]; omega) (by rw [cp_row (by decide)]; unfold tf_N; omega)
    rw [f1, fm_back_114 tf_N 0 D' (by omega) (by omega) (by unfold tf_N; omega)]
    refine lw_rt ?_ (lw_mv hR (fun r x1 x2 x3 => by rw [tc_row x3, tc_row x2, tc_row x1]) (fun r x1 x2 x3 => by rw [cp_row x3, f2 r x2, cp_row x1]) (fun i hi => ?_) (fun i hi => ?_) (fun h p q1 q2 q3 => ?_) (fun i hi => ?_))
    · simp (disch := decide) only [tc_row, tc_at, cp_row, cp_at, f2]
      simp (disch := omega) only [if_pos]
      exact (jle 2 (by omega)).symm
    · simp (disch := decide) only [tc_row, tc_at, cp_row, cp_at, f2]
      have b := lon i hi
      by_cases q : (i : Int) < Dc 37 1
      · simp (disch := omega) only [if_pos]
        rw [show Int.toNat 0 + (i - Int.toNat 0) = i from (by show 0 + (i - 0) = i; omega)]
        exact jon i q
      · simp (disch := omega) only [if_neg]
        exact b
    · simp (disch := decide) only [tc_row, tc_at, cp_row, cp_at, f2]
      simp (disch := omega) only [if_pos]
      rw [show 0 + (i - 0) = i by omega, f3 i]
      simp (disch := decide) only [cp_row]
      have b := jsh i hi
      refine ⟨?_, b.2⟩
      have zz := jz (i / 6) (i % 6) (by omega) (by omega)
      have z2 := lz (i / 6) (i % 6) (by omega) (by omega)
      rw [show 6 * (i / 6) + i % 6 = i by omega] at zz z2
      have b4 := (lsh i hi).1
      by_cases q : (0 : Int) ≤ (i : Int) / 6 ∧ (i : Int) / 6 < Dm 1 3 ∧ (i : Int) % 6 < Dm 1 1
      · rw [if_pos q]
        by_cases q2 : (i : Int) / 6 < Dm 1 46 ∧ (i : Int) % 6 < Dm 1 45
        · rw [if_pos q2]
          exact b.1
        · rw [if_neg q2, zz (by omega)]
      · rw [if_neg q, b4, zz (by omega), z2 (by omega)]
    · simp (disch := decide) only [tc_row, tc_at, cp_row, cp_at, f2]
      simp (disch := omega) only [if_pos]
      rw [show 0 + (6 * h + p - 0) = 6 * h + p by omega]
      exact jz h p q1 q2 (by omega)
    · simp (disch := decide) only [tc_row, tc_at, cp_row, cp_at, f2]
      simp (disch := omega) only [if_pos]
      rw [show Int.toNat 0 + (i - Int.toNat 0) = i from (by show 0 + (i - 0) = i; omega)]
      exact jle i hi
