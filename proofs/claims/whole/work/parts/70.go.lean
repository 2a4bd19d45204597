/-- what the loops of a round know of needs and most -/
def nm_o (Dc Dm : td_D) : Prop := (∀ i : Nat, i < 10 → Dm 5 i = Dc 7 i ∧ 0 ≤ Dc 7 i ∧ Dc 7 i ≤ 99) ∧ (∀ i : Nat, i < 10 → Dm 6 i = Dc 8 i ∧ 0 ≤ Dc 8 i ∧ Dc 8 i ≤ 99) ∧ ∀ i : Nat, i < 10 → Dc 7 i ≤ Dc 8 i
theorem fm_run_bad {all de k : Int} {D E Dc Dm : td_D} (hn : nm_o Dc Dm) (fm : fr_m Dm E) (rd : rd_o de D E k) (hde : de ≤ 10) {j : Nat} (hj : (j : Int) < k) (bad : all < Dc 7 (D 30 j).toNat) : ∀ (m : Nat) (lo hi v : Int), 0 ≤ v → v ≤ j → hi ≤ all → j - v < m → ∃ (t lo' : Int), F_X12_runFrom_19 m lo hi v E = some (t, td_upd E 1 36 lo') ∧ v ≤ t ∧ t ≤ j := by
  obtain ⟨x1, x2, x3, x4, x5⟩ := rd
  obtain ⟨n1, n2, n3⟩ := hn
  intro m
  induction m with
  | zero => intro lo hi v q1 q2 q3 q4; omega
  | succ m ih =>
    intro lo hi v q1 q2 q3 q4
    unfold F_X12_runFrom_19 F_X12_runFrom_59 F_X12_runFrom_85
    obtain ⟨y1, y2, y3⟩ := x5 v.toNat (by omega)
    have b5 := n1 (D 30 v.toNat).toNat (by omega)
    have b6 := n2 (D 30 v.toNat).toNat (by omega)
    have m5 : E 5 = Dm 5 := fm.1 5 rfl
    have m6 : E 6 = Dm 6 := fm.1 6 rfl
    have v20 : 0 ≤ v ∧ v < ((20 : Nat) : Int) := by omega
    have d10 : 0 ≤ D 30 v.toNat ∧ D 30 v.toNat < ((10 : Nat) : Int) := by omega
    rw [x2]
    simp only [if_neg (show ¬ k ≤ v by omega), if_pos v20, y1, if_pos d10, m5, m6, b5.1, b6.1, td_ls]
    rw [tw_s (a := v + 1) (by omega) (by omega)]
    have stop : ∃ (t lo' : Int), some (v, td_upd E 1 36 lo) = some (t, td_upd E 1 36 lo') ∧ v ≤ t ∧ t ≤ (j : Int) := ⟨v, lo, rfl, Int.le_refl _, q2⟩
    have go : ∀ lo2 hi2 : Int, hi2 ≤ all → v < j → ∃ (t lo' : Int), F_X12_runFrom_19 m lo2 hi2 (v + 1) E = some (t, td_upd E 1 36 lo') ∧ v ≤ t ∧ t ≤ (j : Int) := by
      intro lo2 hi2 h1 h2
      obtain ⟨t, lo', e, e1, e2⟩ := ih lo2 hi2 (v + 1) (by omega) (by omega) h1 (by omega)
      exact ⟨t, lo', e, by omega, e2⟩
    have atj : v = j → all < Dc 7 (D 30 v.toNat).toNat := fun e => by
      rw [show v.toNat = j by omega]
      exact bad
    by_cases c1 : Dc 7 (D 30 v.toNat).toNat ≤ lo
    · simp only [if_pos c1]
      by_cases c2 : hi ≤ Dc 8 (D 30 v.toNat).toNat
      · simp only [if_pos c2]
        by_cases c3 : lo ≤ hi
        · simp only [if_pos c3]
          exact go _ _ q3 (by omega)
        · simp only [if_neg c3]
          exact stop
      · simp only [if_neg c2]
        by_cases c3 : lo ≤ Dc 8 (D 30 v.toNat).toNat
        · simp only [if_pos c3]
          exact go _ _ (by omega) (by omega)
        · simp only [if_neg c3]
          exact stop
    · simp only [if_neg c1]
      by_cases c2 : hi ≤ Dc 8 (D 30 v.toNat).toNat
      · simp only [if_pos c2]
        by_cases c3 : Dc 7 (D 30 v.toNat).toNat ≤ hi
        · simp only [if_pos c3]
          exact go _ _ q3 (by omega)
        · simp only [if_neg c3]
          exact stop
      · simp only [if_neg c2]
        by_cases c3 : Dc 7 (D 30 v.toNat).toNat ≤ Dc 8 (D 30 v.toNat).toNat
        · simp only [if_pos c3]
          exact go _ _ (by omega) (by omega)
        · simp only [if_neg c3]
          exact stop
theorem rd_fr {de k : Int} {D E D' E' : td_D} (rd : rd_o de D E k) (h1 : D' 29 2 = D 29 2) (h2 : E' 1 35 = E 1 35) (h3 : D' 30 = D 30) (h4 : E' 23 = E 23) : rd_o de D' E' k := by
  obtain ⟨x1, x2, x3, x4, x5⟩ := rd
  refine ⟨h1.trans x1, h2.trans x2, x3, x4, ?_⟩
  rw [h3, h4]
  exact x5
theorem fm_bad {all de k : Int} {D Dc Dm : td_D} (hn : nm_o Dc Dm) (hde : de ≤ 10) {j : Nat} (hj : (j : Int) < k) (bad : all < Dc 7 (D 30 j).toNat) : ∀ (m : Nat) (g v : Int) (E : td_D), 0 ≤ v → v ≤ j → 0 ≤ g → g ≤ v → j - v < m → fr_m Dm E → rd_o de D E k → ∃ E' : td_D, F_X12_goRound_90 m all g v E = some (-2, E') ∧ fr_m Dm E' := by
  intro m
  induction m with
  | zero => intro g v E q1 q2 q3 q4 q5; omega
  | succ m ih =>
    intro g v E q1 q2 q3 q4 q5 fm rd
    obtain ⟨x1, x2, x3, x4, x5⟩ := id rd
    unfold F_X12_goRound_90 F_X12_runFrom
    have R : ∃ (t lo' : Int), (if all ≤ 99 then F_X12_runFrom_19 tf_N 0 all v E else F_X12_runFrom_19 tf_N 0 99 v E) = some (t, td_upd E 1 36 lo') ∧ v ≤ t ∧ t ≤ j := by
      have bd := hn.1 (D 30 j).toNat (by have y := x5 j hj; omega)
      rw [if_pos (by omega)]
      exact fm_run_bad hn fm rd hde hj bad tf_N 0 all v q1 q2 (Int.le_refl _) (by unfold tf_N; omega)
    obtain ⟨t, lo', e, e1, e2⟩ := R
    rw [x2, if_neg (show ¬ k ≤ v by omega), e, td_bs]
    have f1 : fr_m Dm (td_upd E 1 36 lo') := fr_mt fm (fr_mu rfl (fun _ => rfl))
    by_cases c1 : t = v
    · rw [if_pos c1]
      exact ⟨_, rfl, f1⟩
    · rw [if_neg c1]
      split
      · exact ⟨_, rfl, f1⟩
      · obtain ⟨E', g1, g2, g3⟩ := fm_132 (all := all) (g := g + 1) (fun v2 v3 v4 D => F_X12_goRound_90 m v2 v3 v4 D) (show t ≤ 20 by omega) tf_N v (td_upd E 1 36 lo') q1 (by omega) (by unfold tf_N; omega)
        rw [tw_s (a := g + 1) (by omega) (by omega), g1]
        have f2 : fr_m Dm E' := ⟨fun r q => (g2 r (fun z => by rw [z] at q; cases q)).trans (f1.1 r q), fun i q => by rw [g2 1 (by decide)]; exact f1.2 i q⟩
        have r2 : rd_o de D E' k := rd_fr rd rfl (by rw [g2 1 (by decide), tu_at, tu_ne (by decide)]) rfl (by rw [g2 23 (by decide), tu_row (by decide)])
        exact ih (g + 1) t E' (by omega) e2 (by omega) (by omega) (by omega) f2 r2
theorem lk_run {all de k s : Int} {D E Dc Dm : td_D} (hn : nm_o Dc Dm) (fc : fr_c Dc D) (fm : fr_m Dm E) (rd : rd_o de D E k) (hde : de ≤ 10) (hall : ∀ i : Nat, (i : Int) < k → Dc 7 (D 30 i).toNat ≤ all) : ∀ (m : Nat) (lo hc v : Int), 0 ≤ v → v ≤ k → 0 ≤ lo → lo ≤ all → k - v < m → ∃ (t lo' : Int), F_X5_goOnceFrom_12 m s lo hc v v D = F_X5_goOnceFrom_90 tf_N lo' t s D ∧ F_X12_runFrom_19 m lo (if hc ≤ all then hc else all) v E = some (t, td_upd E 1 36 lo') ∧ v ≤ t ∧ t ≤ k ∧ (v < k → lo = 0 → hc = 99 → v < t) := by
  obtain ⟨x1, x2, x3, x4, x5⟩ := rd
  obtain ⟨n1, n2, n3⟩ := hn
  intro m
  induction m with
  | zero => intro lo hi v q1 q2 q3 q4 q5; omega
  | succ m ih =>
    intro lo hc v q1 q2 q3 q4 q5
    unfold F_X5_goOnceFrom_12 F_X12_runFrom_19 F_X12_runFrom_59 F_X12_runFrom_85
    rw [x1, x2]
    by_cases c : k ≤ v
    · rw [if_pos c, if_pos c, td_ls]
      exact ⟨v, lo, rfl, rfl, Int.le_refl _, q2, fun h => by omega⟩
    · obtain ⟨y1, y2, y3⟩ := x5 v.toNat (by omega)
      have b5 := n1 (D 30 v.toNat).toNat (by omega)
      have b6 := n2 (D 30 v.toNat).toNat (by omega)
      have b7 := n3 (D 30 v.toNat).toNat (by omega)
      have ba := hall v.toNat (by omega)
      have z7 : D 7 = Dc 7 := fc.1 7 rfl
      have z8 : D 8 = Dc 8 := fc.1 8 rfl
      have m5 : E 5 = Dm 5 := fm.1 5 rfl
      have m6 : E 6 = Dm 6 := fm.1 6 rfl
      have v20 : 0 ≤ v ∧ v < ((20 : Nat) : Int) := by omega
      have d10 : 0 ≤ D 30 v.toNat ∧ D 30 v.toNat < ((10 : Nat) : Int) := by omega
      simp only [if_neg c, if_pos v20, y1, if_pos d10, m5, m6, z7, z8, b5.1, b6.1, td_ls]
      rw [tw_s (a := v + 1) (by omega) (by omega)]
      unfold tv_max tv_min
      generalize Dc 7 (D 30 v.toNat).toNat = nd at *
      generalize Dc 8 (D 30 v.toNat).toNat = mo at *
      have go : ∀ lo2 hc2 hm2 : Int, 0 ≤ lo2 → lo2 ≤ all → (hm2 = if hc2 ≤ all then hc2 else all) → ∃ (t lo' : Int), F_X5_goOnceFrom_12 m s lo2 hc2 (v + 1) (v + 1) D = F_X5_goOnceFrom_90 tf_N lo' t s D ∧ F_X12_runFrom_19 m lo2 hm2 (v + 1) E = some (t, td_upd E 1 36 lo') ∧ v ≤ t ∧ t ≤ k ∧ (v < k → lo = 0 → hc = 99 → v < t) := by
        intro lo2 hc2 hm2 h1 h2 h3
        subst h3
        obtain ⟨t, lo', a1, a2, a3, a4, -⟩ := ih lo2 hc2 (v + 1) (by omega) (by omega) h1 h2 (by omega)
        exact ⟨t, lo', a1, a2, by omega, a4, fun _ _ _ => by omega⟩
      have stop : (lo = 0 → hc = 99 → False) → ∃ (t lo' : Int), F_X5_goOnceFrom_90 tf_N lo v s D = F_X5_goOnceFrom_90 tf_N lo' t s D ∧ some (v, td_upd E 1 36 lo) = some (t, td_upd E 1 36 lo') ∧ v ≤ t ∧ t ≤ k ∧ (v < k → lo = 0 → hc = 99 → v < t) := fun h => ⟨v, lo, rfl, rfl, Int.le_refl _, q2, fun _ a b => (h a b).elim⟩
      by_cases c1 : nd ≤ lo
      · simp only [if_pos c1, if_neg (show ¬ lo < nd by omega)]
        by_cases c2 : mo < hc
        · simp only [if_pos c2]
          by_cases ca : hc ≤ all
          · simp only [if_pos ca, if_neg (show ¬ hc ≤ mo by omega)]
            by_cases c3 : lo ≤ mo
            · simp only [if_pos c3]
              exact go _ _ _ q3 q4 (by rw [if_pos (by omega)])
            · simp only [if_neg c3]
              exact stop (by omega)
          · simp only [if_neg ca]
            by_cases cb : all ≤ mo
            · simp only [if_pos cb, if_pos q4, if_pos (show lo ≤ mo by omega)]
              exact go _ _ _ q3 q4 (by split <;> omega)
            · simp only [if_neg cb]
              by_cases c3 : lo ≤ mo
              · simp only [if_pos c3]
                exact go _ _ _ q3 q4 (by rw [if_pos (by omega)])
              · simp only [if_neg c3]
                exact stop (by omega)
        · simp only [if_neg c2]
          by_cases ca : hc ≤ all
          · simp only [if_pos ca, if_pos (show hc ≤ mo by omega)]
            by_cases c3 : lo ≤ hc
            · simp only [if_pos c3]
              exact go _ _ _ q3 q4 (by rw [if_pos ca])
            · simp only [if_neg c3]
              exact stop (by omega)
          · simp only [if_neg ca, if_pos (show all ≤ mo by omega), if_pos q4, if_pos (show lo ≤ hc by omega)]
            exact go _ _ _ q3 q4 (by rw [if_neg ca])
      · simp only [if_neg c1, if_pos (show lo < nd by omega)]
        by_cases c2 : mo < hc
        · simp only [if_pos c2, if_pos b7]
          by_cases ca : hc ≤ all
          · simp only [if_pos ca, if_neg (show ¬ hc ≤ mo by omega), if_pos b7]
            exact go _ _ _ (by omega) ba (by rw [if_pos (by omega)])
          · simp only [if_neg ca]
            by_cases cb : all ≤ mo
            · simp only [if_pos cb, if_pos ba]
              exact go _ _ _ (by omega) ba (by split <;> omega)
            · simp only [if_neg cb, if_pos b7]
              exact go _ _ _ (by omega) ba (by rw [if_pos (by omega)])
        · simp only [if_neg c2]
          by_cases ca : hc ≤ all
          · simp only [if_pos ca, if_pos (show hc ≤ mo by omega)]
            by_cases c3 : nd ≤ hc
            · simp only [if_pos c3]
              exact go _ _ _ (by omega) ba (by rw [if_pos ca])
            · simp only [if_neg c3]
              exact stop (by omega)
          · simp only [if_neg ca, if_pos (show all ≤ mo by omega), if_pos ba, if_pos (show nd ≤ hc by omega)]
            exact go _ _ _ (by omega) ba (by rw [if_neg ca])
theorem lk_go {all de k : Int} {Dc Dm : td_D} (hn : nm_o Dc Dm) (hde : de ≤ 10) (h0 : 0 ≤ all) (hh : Dm 1 3 ≠ 0) (f30 : Nat → Int) (hall : ∀ i : Nat, (i : Int) < k → Dc 7 (f30 i).toNat ≤ all) : ∀ (m : Nat) (v5 g v : Int) (D E : td_D), 0 ≤ v5 → v5 ≤ v → v ≤ k → 0 ≤ g → g ≤ v → k - v < m → fr_c Dc D → fr_m Dm E → rd_o de D E k → D 30 = f30 → D 29 3 = g → (∀ i : Nat, (i : Int) < v → E 24 i = D 31 i) → ∃ (g' : Int) (D' E' : td_D), F_X5_plan_96 m v v5 D = some (if g' = 0 then 1 else if Dc 2 1 ≤ 0 then 0 else 1, D') ∧ F_X12_goRound_90 m all g v E = some (g', E') ∧ (0 ≤ g' ∧ g ≤ g' ∧ (v < k → g < g')) ∧ D' 29 3 = g' ∧ fr_c Dc D' ∧ fr_m Dm E' ∧ rd_o de D' E' k ∧ ∀ i : Nat, (i : Int) < k → E' 24 i = D' 31 i := by
  intro m
  induction m with
  | zero => intro v5 g v D E q1 q2 q3 q4 q5; omega
  | succ m ih =>
    intro v5 g v D E q1 q2 q3 q4 q5 q6 fc fm rd h30 h3 heq
    obtain ⟨x1, x2, x3, x4, x5⟩ := id rd
    have d21 : D 2 1 = Dc 2 1 := by rw [fc.1 2 rfl]
    unfold F_X5_plan_96 F_X12_goRound_90
    rw [x1, x2, h3, d21]
    by_cases c : k ≤ v
    · rw [if_pos c, if_pos c]
      refine ⟨g, D, E, ?_, rfl, ⟨q4, Int.le_refl _, fun h => by omega⟩, h3, fc, fm, rd, fun i hi => heq i (by omega)⟩
      (repeat' split) <;> rfl
    · rw [if_neg (show ¬ 20 ≤ v5 by omega), if_neg c, if_neg c]
      obtain ⟨t, lo', a1, a2, a3, a4, a5⟩ := lk_run (s := v) hn fc fm rd hde (by rw [h30]; exact hall) tf_N 0 99 v (by omega) q3 (by omega) h0 (by unfold tf_N; omega)
      have a6 := a5 (by omega) rfl rfl
      obtain ⟨D1, b1, b2, b3⟩ := fe_90 (lo := lo') (t := t) (by omega) tf_N v D (by omega) a3 (by unfold tf_N; omega)
      unfold F_X5_goOnceFrom F_X12_runFrom
      rw [a1, b1, td_bs]
      have e : (if all ≤ 99 then F_X12_runFrom_19 tf_N 0 all v E else F_X12_runFrom_19 tf_N 0 99 v E) = some (t, td_upd E 1 36 lo') := by
        rw [← a2]
        by_cases z : all ≤ 99
        · rw [if_pos z]
          by_cases z2 : 99 ≤ all
          · rw [if_pos z2, show all = 99 by omega]
          · rw [if_neg z2]
        · rw [if_neg z, if_pos (by omega)]
      obtain ⟨E1, g1, g2, g3⟩ := fm_132 (all := all) (g := g + 1) (fun v2 v3 v4 D => F_X12_goRound_90 m v2 v3 v4 D) (show t ≤ 20 by omega) tf_N v (td_upd E 1 36 lo') (by omega) a3 (by unfold tf_N; omega)
      have e13 : td_upd E 1 36 lo' 1 3 = Dm 1 3 := by
        rw [tu_at, tu_ne (by decide)]
        exact fm.2 3 rfl
      rw [e, td_bs, if_neg (show ¬ t = v by omega), e13, if_neg hh, tw_s (a := g + 1) (by omega) (by omega), g1, td_ls, b2 29 (by decide), h3, tw_s (a := g + 1) (by omega) (by omega), tw_s (a := v5 + 1) (by omega) (by omega)]
      have f2 : fr_m Dm E1 := fr_mt fm (fr_mt (fr_mu (j := 36) (v := lo') rfl (fun _ => rfl)) ⟨fun r q => g2 r (fun z => by rw [z] at q; cases q), fun i q => by rw [g2 1 (by decide)]⟩)
      have f1 : fr_c Dc (td_upd D1 29 3 (g + 1)) := fr_ct fc (fr_ct ⟨fun r q => b2 r (fun z => by rw [z] at q; cases q), by rw [b2 10 (by decide)]⟩ (fr_cu rfl (by decide)))
      suffices h : ∃ (g' : Int) (D' E' : td_D), F_X5_plan_96 m t (v5 + 1) (td_upd D1 29 3 (g + 1)) = some (if g' = 0 then 1 else if Dc 2 1 ≤ 0 then 0 else 1, D') ∧ F_X12_goRound_90 m all (g + 1) t E1 = some (g', E') ∧ (0 ≤ g' ∧ g + 1 ≤ g' ∧ (t < k → g + 1 < g')) ∧ D' 29 3 = g' ∧ fr_c Dc D' ∧ fr_m Dm E' ∧ rd_o de D' E' k ∧ ∀ i : Nat, (i : Int) < k → E' 24 i = D' 31 i by
        obtain ⟨g', D', E', r1, r2, r3, r4⟩ := h
        exact ⟨g', D', E', r1, r2, ⟨r3.1, by omega, fun _ => by omega⟩, r4⟩
      refine ih (v5 + 1) (g + 1) t (td_upd D1 29 3 (g + 1)) E1 (by omega) (by omega) a4 (by omega) (by omega) (by omega) f1 f2 (rd_fr rd ?_ ?_ ?_ ?_) ?_ ?_ (fun i hi => ?_)
      · rw [tu_at, tu_ne (by decide), b2 29 (by decide)]
      · rw [g2 1 (by decide), tu_at, tu_ne (by decide)]
      · rw [tu_row (by decide), b2 30 (by decide)]
      · rw [g2 23 (by decide), tu_row (by decide)]
      · rw [tu_row (by decide), b2 30 (by decide), h30]
      · rw [tu_at, tu_same]
      · simp (disch := decide) only [g3 i, tu_row, b3 i, tu_at, tu_same]
        by_cases z : v ≤ (i : Int) ∧ (i : Int) < t
        · rw [if_pos z, if_pos z]
        · rw [if_neg z, if_neg z]
          exact heq i (by omega)
