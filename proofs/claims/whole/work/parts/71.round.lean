theorem lk_pre {all p k : Int} {Dc Dm : td_D} (hR : lw_R Dc Dm) (p1 : 0 ≤ p) (p2 : p < Dc 2 0) : ∀ (m : Nat) (v : Int) (D E : td_D), 0 ≤ v → v ≤ k → k - v < m → fr_c Dc D → fr_m Dm E → rd_o (Dc 2 2) D E k → (∀ i : Nat, (i : Int) < v → E 24 i = D 31 i ∧ Dc 7 (D 30 i).toNat ≤ Dc 3 p.toNat) → ∃ (t : Int) (D' E' : td_D), F_X5_plan_37 m p v v D = F_X5_plan_96 tf_N t 0 D' ∧ F_X12_goRound_42 m p all 0 v E = F_X12_goRound_90 tf_N all 0 t E' ∧ 0 ≤ t ∧ t ≤ k ∧ fr_c Dc D' ∧ fr_m Dm E' ∧ rd_o (Dc 2 2) D' E' k ∧ D' 30 = D 30 ∧ D' 29 3 = 0 ∧ ∀ i : Nat, (i : Int) < t → E' 24 i = D' 31 i ∧ Dc 7 (D' 30 i).toNat ≤ Dc 3 p.toNat := by
  obtain ⟨⟨⟨l1, l1a, l1b⟩, ⟨l2, l2a, l2b⟩, ⟨l3, l3a, l3b⟩, lon, lce, lsh, lz, lnd, lmo, lwo, lnm⟩, -⟩ := id hR
  intro m
  induction m with
  | zero => intro v D E q1 q2 q3; omega
  | succ m ih =>
    intro v D E q1 q2 q3 fc fm rd heq
    obtain ⟨x1, x2, x3, x4, x5⟩ := id rd
    have stop : ∃ (t : Int) (D' E' : td_D), F_X5_plan_96 tf_N v 0 (td_upd D 29 3 0) = F_X5_plan_96 tf_N t 0 D' ∧ F_X12_goRound_90 tf_N all 0 v E = F_X12_goRound_90 tf_N all 0 t E' ∧ 0 ≤ t ∧ t ≤ k ∧ fr_c Dc D' ∧ fr_m Dm E' ∧ rd_o (Dc 2 2) D' E' k ∧ D' 30 = D 30 ∧ D' 29 3 = 0 ∧ ∀ i : Nat, (i : Int) < t → E' 24 i = D' 31 i ∧ Dc 7 (D' 30 i).toNat ≤ Dc 3 p.toNat := by
      refine ⟨v, td_upd D 29 3 0, E, rfl, rfl, q1, q2, fr_ct fc (fr_cu rfl (by decide)), fm, rd_fr rd ?_ rfl ?_ rfl, ?_, ?_, ?_⟩
      · rw [tu_at, tu_ne (by decide)]
      · rw [tu_row (by decide)]
      · rw [tu_row (by decide)]
      · rw [tu_at, tu_same]
      · simp (disch := decide) only [tu_row]
        exact heq
    unfold F_X5_plan_37 F_X12_goRound_42
    rw [x1, x2]
    by_cases c : k ≤ v
    · rw [if_pos c, if_pos c, td_ls]
      exact stop
    · obtain ⟨y1, y2, y3⟩ := x5 v.toNat (by omega)
      have z3 : D 3 = Dc 3 := fc.1 3 rfl
      have z7 : D 7 = Dc 7 := fc.1 7 rfl
      have z8 : D 8 = Dc 8 := fc.1 8 rfl
      have m2 : E 2 = Dm 2 := fm.1 2 rfl
      have m5 : E 5 = Dm 5 := fm.1 5 rfl
      have m6 : E 6 = Dm 6 := fm.1 6 rfl
      have v20 : 0 ≤ v ∧ v < ((20 : Nat) : Int) := by omega
      have p6 : 0 ≤ p ∧ p < ((6 : Nat) : Int) := by omega
      simp only [if_neg c, if_pos v20, if_pos p6, y1, fe_mayDo y2 (show D 30 v.toNat < 10 by omega), fm_mayDo y2 (show D 30 v.toNat < 10 by omega), td_bs, z3, z7, z8, m2, m5, m6, (lon p.toNat (by omega)).1, (lnd (D 30 v.toNat).toNat (by omega)).1, (lmo (D 30 v.toNat).toNat (by omega)).1, td_ls]
      rw [tw_s (a := v + 1) (by omega) (by omega)]
      by_cases c1 : Dc 7 (D 30 v.toNat).toNat ≤ Dc 3 p.toNat ∧ Dc 3 p.toNat ≤ Dc 8 (D 30 v.toNat).toNat
      · rw [tf_t c1]
        simp only [if_neg (show ¬ (1 : Int) = 0 by decide)]
        obtain ⟨t, D', E', a1, a2, a3, a4, a5, a6, a7, a8, a9, a10⟩ := ih (v + 1) (td_upd D 31 v.toNat (Dc 3 p.toNat)) (td_upd E 24 v.toNat (Dc 3 p.toNat)) (by omega) (by omega) (by omega) (fr_ct fc (fr_cu rfl (fun q => absurd q.1 (by decide)))) (fr_mt fm (fr_mu rfl (fun q => absurd q (by decide)))) (rd_fr rd (by rw [tu_row (by decide)]) (by rw [tu_row (by decide)]) (by rw [tu_row (by decide)]) (by rw [tu_row (by decide)])) (fun i hi => by
          rw [tu_at, tu_at, tu_row (by decide)]
          unfold tv_up
          by_cases z : i = v.toNat
          · rw [if_pos z, if_pos z, z]
            exact ⟨rfl, c1.1⟩
          · rw [if_neg z, if_neg z]
            exact heq i (by omega))
        rw [tu_row (by decide)] at a8
        exact ⟨t, D', E', a1, a2, a3, a4, a5, a6, a7, a8, a9, a10⟩
      · rw [tf_f c1]
        simp only [if_true]
        exact stop
/-- round -/
theorem lk_round {a p q : Int} {Dc Dm : td_D} (hR : lw_R Dc Dm) (h1 : 0 ≤ a) (h2 : a ≤ 5) (ho : Dc (47 + 2 * a.toNat) 0 = 0) (p1 : 0 ≤ p) (p2 : p < Dc 2 0) (hq : -1 ≤ q) :
    lk_s (td_b (F_X5_plan (47 + 2 * a.toNat) p Dc) fun r8 D9 => if r8 = 0 then some ((-2), D9) else if q = (-1) then some (D9 29 3, D9) else if D9 29 2 ≤ q then some ((-2), D9) else if 0 ≤ q ∧ q < ((20 : Nat) : Int) then some (D9 31 (Int.toNat q), D9) else none)
      (td_b (F_X12_layRound a Dm) fun _ D8 => td_b (F_X12_goRound p D8) fun r9 D10 => if r9 < 0 then some ((-2), D10) else if q < D10 1 35 then (if 0 ≤ q then (if 0 ≤ q ∧ q < ((20 : Nat) : Int) then some (D10 24 (Int.toNat q), D10) else none) else some (r9, D10)) else some ((-2), D10)) Dc Dm := by
  obtain ⟨⟨⟨l1, l1a, l1b⟩, ⟨l2, l2a, l2b⟩, ⟨l3, l3a, l3b⟩, lon, lce, lsh, lz, lnd, lmo, lwo, lnm⟩, -⟩ := id hR
  obtain ⟨D1, E1, k, e1, e2, fc1, fm1, rd1⟩ := lk_rd hR h1 h2 ho
  obtain ⟨x1, x2, x3, x4, x5⟩ := id rd1
  have d6 : D1 6 = Dc 6 := fc1.1 6 rfl
  have d3 : D1 3 = Dc 3 := fc1.1 3 rfl
  have d7 : D1 7 = Dc 7 := fc1.1 7 rfl
  have m2 : E1 2 = Dm 2 := fm1.1 2 rfl
  have m4 : E1 4 = Dm 4 := fm1.1 4 rfl
  have m13 : E1 1 3 = Dc 2 1 := (fm1.2 3 rfl).trans l2
  have hn : nm_o Dc Dm := ⟨lnd, lmo, lnm⟩
  have bo := lon p.toNat (by omega)
  have p6 : 0 ≤ p ∧ p < ((6 : Nat) : Int) := by omega
  obtain ⟨S, hS⟩ : ∃ S : Int, S = sq_o (fun h => Dc 6 (6 * h + p.toNat)) 0 5 := ⟨_, rfl⟩
  have bs := sq_b (f := fun h => Dc 6 (6 * h + p.toNat)) (b := 0) (N := 5) (fun i hi => (lsh _ (by omega)).2) 5 (by omega)
  rw [← hS] at bs
  have A1 : F_X7_allOf 5 p D1 = some (S, D1) := by
    have z := fe_allOf_4 (p := p) (D := D1) (by rw [d6]; exact fun i hi => (lsh i hi).2) p1 (by omega) tf_N 0 (by omega) (by unfold tf_N; omega)
    rw [d6, ← hS] at z
    exact z
  have A2 : F_X12_goRound p E1 = F_X12_goRound_42 tf_N p (Dc 3 p.toNat + S) 0 0 E1 := by
    unfold F_X12_goRound
    rw [if_pos p6, m2, bo.1]
    have z := fm_goRound_9 (p := p) (on := Dc 3 p.toNat) (E := E1) (f := Dc 6) (pe := Dc 2 0) (hi := Dc 2 1) ⟨by rw [m4]; exact lsh, lz⟩ m13 l2b p1 (by omega) bo.2.1 bo.2.2 tf_N 0 l2a (by unfold tf_N; omega)
    rw [← hS, show sq_o (fun h => Dc 6 (6 * h + p.toNat)) 0 0 = 0 from rfl, Int.add_zero] at z
    exact z
  obtain ⟨t, D2, E2, a1, a2, a3, a4, fc2, fm2, rd2, d30, d29, heq⟩ := lk_pre (all := Dc 3 p.toNat + S) hR p1 p2 tf_N 0 D1 E1 (by omega) x3 (by unfold tf_N; omega) fc1 fm1 rd1 (fun i hi => by omega)
  unfold F_X5_plan
  rw [e1, e2, td_bs, td_bs, if_pos p6, A1, td_bs, A2, a2, d3, tw_s (a := Dc 3 p.toNat + S) (by omega) (by omega)]
  have nn := fe_needs (all := Dc 3 p.toNat + S) (de := Dc 2 2) x1 x4 (fun i hi => ⟨(x5 i hi).2.1, by have y := (x5 i hi).2.2; omega⟩) tf_N 0 (by omega) (by omega) (by unfold tf_N; omega)
  unfold F_X5_needsMoreThan
  rw [d7] at nn
  rcases nn with ⟨b1, b2⟩ | ⟨b1, j, b2, b3⟩
  · rw [b1, td_bs, if_pos rfl, a1]
    by_cases ch : Dc 2 1 = 0
    · have hn2 : nm_o Dc (td_upd Dm 1 3 1) := by
        unfold nm_o
        simp (disch := decide) only [tu_row]
        exact hn
      have fm2' : fr_m (td_upd Dm 1 3 1) (td_upd E2 1 3 1) := by
        refine ⟨fun r q => ?_, fun i q => ?_⟩
        · rw [tu_row (fun z => by rw [z] at q; cases q), tu_row (fun z => by rw [z] at q; cases q)]
          exact fm2.1 r q
        · rw [tu_at, tu_at]
          unfold tv_up
          rw [fm2.2 i q]
      obtain ⟨g, D3, E3, c1, c2, c3, c4, fc3, fm3, rd3, heq3⟩ := lk_go (all := Dc 3 p.toNat + S) hn2 l3b (by omega) (by rw [tu_at, tu_same]; decide) (D2 30) (by rw [d30]; exact fun i hi => b2 i (by omega) hi) tf_N 0 0 t D2 (td_upd E2 1 3 1) (Int.le_refl _) a3 a4 (Int.le_refl _) a3 (by unfold tf_N; omega) fc2 fm2' (rd_fr rd2 rfl (by rw [tu_at, tu_ne (by decide)]) rfl (by rw [tu_row (by decide)])) rfl d29 (fun i hi => by rw [tu_row (by decide)]; exact (heq i hi).1)
      rw [c1, td_bs]
      by_cases ck : k ≤ t
      · have c2' : F_X12_goRound_90 tf_N (Dc 3 p.toNat + S) 0 t (td_upd E2 1 3 1) = some (0, td_upd E2 1 3 1) := by
          show F_X12_goRound_90 (4999 + 1) _ _ _ _ = _
          unfold F_X12_goRound_90
          rw [if_pos (by rw [tu_at, tu_ne (by decide), rd2.2.1]; exact ck)]
        have c2'' : F_X12_goRound_90 tf_N (Dc 3 p.toNat + S) 0 t E2 = some (0, E2) := by
          show F_X12_goRound_90 (4999 + 1) _ _ _ _ = _
          unfold F_X12_goRound_90
          rw [if_pos (by rw [rd2.2.1]; exact ck)]
        have g0 : g = 0 := by
          have z := c2.symm.trans c2'
          injection z with z
          injection z with z
        have E3e : E3 = td_upd E2 1 3 1 := by
          have z := c2.symm.trans c2'
          injection z with z
          injection z with z z2
        rw [c2'', td_bs, g0, rd2.2.1]
        simp only [if_true, if_neg (show ¬ (1 : Int) = 0 by decide), if_neg (show ¬ (0 : Int) < 0 by decide), rd3.1, c4, g0]
        rw [E3e] at heq3
        by_cases q0 : q = -1
        · rw [if_pos q0, if_pos (by omega), if_neg (by omega)]
          exact lk_1 rfl fc3 fm2
        · rw [if_neg q0]
          by_cases qk : k ≤ q
          · rw [if_pos qk, if_neg (by omega)]
            exact lk_1 rfl fc3 fm2
          · rw [if_neg qk, if_pos (show q < k by omega), if_pos (show 0 ≤ q by omega), if_pos (by omega), if_pos (by omega)]
            refine lk_1 ?_ fc3 fm2
            have z := heq3 q.toNat (by omega)
            rw [tu_row (by decide)] at z
            exact z.symm
      · have c2'' : ∃ E4 : td_D, F_X12_goRound_90 tf_N (Dc 3 p.toNat + S) 0 t E2 = some (-2, E4) ∧ fr_m Dm E4 := by
          obtain ⟨t', lo', w1, w2, w3, w4, w5⟩ := lk_run (s := t) hn fc2 fm2 rd2 l3b (by rw [d30]; exact fun i hi => b2 i (by omega) hi) tf_N 0 99 t a3 a4 (by omega) (show 0 ≤ Dc 3 p.toNat + S by omega) (by unfold tf_N; omega)
          have e : (if Dc 3 p.toNat + S ≤ 99 then F_X12_runFrom_19 tf_N 0 (Dc 3 p.toNat + S) t E2 else F_X12_runFrom_19 tf_N 0 99 t E2) = some (t', td_upd E2 1 36 lo') := by
            rw [← w2]
            by_cases z : Dc 3 p.toNat + S ≤ 99
            · rw [if_pos z]
              by_cases z2 : 99 ≤ Dc 3 p.toNat + S
              · rw [if_pos z2, show Dc 3 p.toNat + S = 99 by omega]
              · rw [if_neg z2]
            · rw [if_neg z, if_pos (by omega)]
          show ∃ E4 : td_D, F_X12_goRound_90 (4999 + 1) _ _ _ _ = _ ∧ _
          unfold F_X12_goRound_90 F_X12_runFrom
          have e13 : td_upd E2 1 36 lo' 1 3 = 0 := by
            rw [tu_at, tu_ne (by decide), fm2.2 3 rfl]
            omega
          rw [rd2.2.1, if_neg ck, e, td_bs, if_neg (show ¬ t' = t by have := w5 (by omega) rfl rfl; omega), e13, if_pos rfl]
          exact ⟨_, rfl, fr_mt fm2 (fr_mu rfl (fun _ => rfl))⟩
        obtain ⟨E4, w1, w2⟩ := c2''
        have g0 : g ≠ 0 := by
          have z := c3.2.2 (by omega)
          omega
        rw [w1, td_bs, if_neg g0, if_pos (by omega)]
        simp only [if_true, if_pos (show (-2 : Int) < 0 by decide)]
        exact lk_1 rfl fc3 w2
    · obtain ⟨g, D3, E3, c1, c2, c3, c4, fc3, fm3, rd3, heq3⟩ := lk_go (all := Dc 3 p.toNat + S) hn l3b (by omega) (by omega) (D2 30) (by rw [d30]; exact fun i hi => b2 i (by omega) hi) tf_N 0 0 t D2 E2 (Int.le_refl _) a3 a4 (Int.le_refl _) a3 (by unfold tf_N; omega) fc2 fm2 rd2 rfl d29 (fun i hi => (heq i hi).1)
      rw [c1, c2, td_bs, td_bs, if_neg (show ¬ g < 0 by omega), rd3.1, rd3.2.1, c4]
      have ne : ¬ (if g = 0 then (1 : Int) else if Dc 2 1 ≤ 0 then 0 else 1) = 0 := by
        by_cases z : g = 0
        · rw [if_pos z]; decide
        · rw [if_neg z, if_neg (by omega)]; decide
      rw [if_neg ne]
      by_cases q0 : q = -1
      · rw [if_pos q0, if_pos (by omega), if_neg (by omega)]
        exact lk_1 rfl fc3 fm3
      · rw [if_neg q0]
        by_cases qk : k ≤ q
        · rw [if_pos qk, if_neg (by omega)]
          exact lk_1 rfl fc3 fm3
        · rw [if_neg qk, if_pos (show q < k by omega), if_pos (show 0 ≤ q by omega), if_pos (by omega), if_pos (by omega)]
          exact lk_1 (heq3 q.toNat (by omega)).symm fc3 fm3
  · rw [b1, td_bs, if_neg (by decide), td_bs]
    have jt : t ≤ j := by
      apply Decidable.byContradiction
      intro z
      have y := (heq j (by omega)).2
      rw [d30] at y
      omega
    obtain ⟨E3, w1, w2⟩ := fm_bad (all := Dc 3 p.toNat + S) (D := D2) hn l3b b2 (by rw [d30]; exact b3) tf_N 0 t E2 a3 jt (Int.le_refl _) a3 (by unfold tf_N; omega) fm2 rd2
    rw [w1, td_bs, if_pos rfl, if_pos (by decide)]
    exact lk_1 rfl fc1 w2
theorem st_11 : ls_11 lw_R := by
  intro a1 a2 a3 Dc Dm _ _ _ _ hR
  obtain ⟨⟨⟨l1, l1a, l1b⟩, -⟩, -⟩ := id hR
  refine lk_R ?_ hR
  unfold F_X11_round F_X12_round F_X11_refusal F_X12_rowFault
  simp only [fe_isShelf, fm_isShelf, fe_isPerson, fm_isPerson _ (show 0 ≤ Dm 1 1 ∧ Dm 1 1 ≤ 6 by omega), td_bs, tf_0, l1]
  by_cases c : 0 ≤ a1 ∧ a1 ≤ 5
  · by_cases d : 0 ≤ a2 ∧ a2 < Dc 2 0
    · by_cases e : -1 ≤ a3
      · simp only [if_neg (show ¬ ¬ (0 ≤ a1 ∧ a1 ≤ 5) from fun q => q c), if_neg (show ¬ ¬ (0 ≤ a2 ∧ a2 < Dc 2 0) from fun q => q d), if_pos e, if_pos (show 0 ≤ a1 ∧ a1 < ((6 : Nat) : Int) by omega)]
        rw [tr_46 (k := a1.toNat) (by omega), tw_s (a := -2 - 0) (by omega) (by omega)]
        rcases sh_k (sh_all hR a1.toNat (by omega)) with ⟨k1, k2⟩ | ⟨k1, k2, k3, k4⟩ | ⟨k1, k2, k3, k4, k5, k6, k7⟩
        · simp (disch := omega) only [if_pos, if_neg, td_bs]
          exact lk_0 rfl
        · simp (disch := omega) only [if_pos, if_neg, td_bs]
          exact lk_0 rfl
        · by_cases c1 : Dc (47 + 2 * a1.toNat) 0 = 0
          · simp only [if_neg (show ¬ Dc (47 + 2 * a1.toNat) 0 = -1 by omega), if_pos c1, td_bs, if_neg (show ¬ Dm 37 a1.toNat = -1 by omega), if_pos (show Dm 37 a1.toNat = -2 - 0 by omega), if_true, if_pos (show (0 : Int) ≤ 0 by decide)]
            exact lk_round hR c.1 c.2 c1 d.1 d.2 e
          · simp (disch := omega) only [if_pos, if_neg, td_bs]
            exact lk_0 rfl
      · simp only [if_neg (show ¬ ¬ (0 ≤ a1 ∧ a1 ≤ 5) from fun q => q c), if_neg (show ¬ ¬ (0 ≤ a2 ∧ a2 < Dc 2 0) from fun q => q d), if_neg e]
        exact lk_0 rfl
    · simp only [if_neg (show ¬ ¬ (0 ≤ a1 ∧ a1 ≤ 5) from fun q => q c), if_pos d]
      exact lk_0 rfl
  · simp only [if_pos c]
    exact lk_0 rfl
