theorem lk_steps {fr to : Nat} {mo fa : Int} {w w' : Nat → Int} {D E : td_D} (m1 : 0 ≤ mo) (m2 : mo ≤ 99) (hfr : fr < 100) (hto : to < 100) (hD : D 24 = w) (hE : ∀ b : Nat, b < 100 → E 26 b = w' b) (hw : ∀ b : Nat, b < 100 → 0 ≤ w' b ∧ w' b ≤ 6) (hS : ∀ b : Nat, b < 100 → (sa_o w mo fa b ↔ w' b = 0)) : ∃ (r : Int) (D' E' : td_D), F_X10_steps (fr : Int) (to : Int) mo fa D = some (r, D') ∧ F_X12_wayOf (fr : Int) (to : Int) E = some (r, E') ∧ (∀ x : Nat, x ≠ 25 → x ≠ 26 → D' x = D x) ∧ (∀ x : Nat, x ≠ 27 → x ≠ 28 → x ≠ 29 → E' x = E x) ∧ (r = -2 ∨ 0 ≤ r) := by
  have t100 : 0 ≤ (to : Int) ∧ (to : Int) < ((100 : Nat) : Int) := by omega
  have f100 : 0 ≤ (fr : Int) ∧ (fr : Int) < ((100 : Nat) : Int) := by omega
  obtain ⟨E1, y1, y2, y3⟩ := fm_ini (fr := (fr : Int)) (sf := 1) tf_N 0 E (by omega) (by omega) (by unfold tf_N; omega) (fun b hb => by omega)
  have e26 : ∀ c : Nat, c < 100 → E1 26 c = w' c := fun c hc => by
    rw [y2 26 (by decide) (by decide) (by decide)]
    exact hE c hc
  have hSf := hS fr hfr
  have hSt := hS to hto
  have wf := hw fr hfr
  unfold F_X10_steps F_X12_wayOf F_X12_goWays
  rw [fe_safe f100.1 (by omega) m1 m2, td_bs, fe_safe t100.1 (by omega) m1 m2, td_bs, y1, hD, Int.toNat_natCast, Int.toNat_natCast]
  unfold gi_o
  rw [if_neg (show ¬ (1 : Int) = 0 by decide), if_pos f100, Int.toNat_natCast, e26 fr hfr]
  by_cases sf : w fr = 0 ∧ fa < da_o (fr : Int) mo
  · have w0 : w' fr = 0 := hSf.mp sf
    obtain ⟨k1, k2, k3, k4⟩ := dk_0 (sf := 1) (fr := fr) hw hfr e26 y3
    obtain ⟨E2, g1, g2, g3, g4, g5⟩ := dk_run (sf := 1) hw hfr 100 tf_N (fr : Int) _ k3 (by unfold tf_N; omega) k1 k2
    have GW : F_X12_goWays_51 (fr : Int) 1 E1 = some (0, E2) := by
      unfold F_X12_goWays_51
      rw [if_pos f100, Int.toNat_natCast, td_ls, td_ls, tu_row (show (26 : Nat) ≠ 27 by decide), e26 fr hfr]
      exact g1
    have fE : ∀ x : Nat, x ≠ 27 → x ≠ 28 → x ≠ 29 → E2 x = E x := fun x x1 x2 x3 => by
      rw [g5 x x1 x2 x3, tu_row x2, tu_row x1, y2 x x1 x2 x3]
    rw [tf_t sf, if_neg (show ¬ (1 : Int) = 0 by decide), if_pos (show w' fr ≤ 0 by omega), GW, td_bs, if_pos t100]
    by_cases st : w to = 0 ∧ fa < da_o (to : Int) mo
    · obtain ⟨D1, b1, b2, b3, b4⟩ := fe_bini (mo := mo) (fa := fa) (fr := fr) (to := to) hfr tf_N 0 D (by omega) (by omega) (by unfold tf_N; omega) (fun b hb => by omega)
      obtain ⟨i, n, D', c1, c2, c3, c4⟩ := fe_bfs (w := w) (mo := mo) (fa := fa) (fr := fr) (to := to) m1 m2 hfr hto tf_N 0 1 D1 (by omega) (by unfold tf_N; omega) (by rw [b2 24 (by decide) (by decide)]; exact hD) (bq_0 hfr b3 b4)
      have res := bf_dk (fun b hb => (hw b hb).1) hfr hto hS sf c3 c4 g2 g3
      rw [tf_t st, if_neg (show ¬ (1 : Int) = 0 by decide), b1]
      refine ⟨_, D', E2, c1, ?_, fun x x1 x2 => (c2 x x1 x2).trans (b2 x x1 x2), fE, ?_⟩
      · rw [res]
        split <;> rfl
      · have rl := c3.2.2.2.2.2.2.2.2.1 to hto
        by_cases z : D' 25 to = -1
        · rw [if_pos z]
          exact Or.inl rfl
        · rw [if_neg z]
          omega
    · have u : E2 27 to = 9999 := by
        apply Decidable.byContradiction
        intro z
        by_cases ft : to = fr
        · rw [ft] at st
          exact st sf
        · obtain ⟨a, a1, a2, a3, a4, a5⟩ := g2.2.2.2.2.2.2.1 to hto z ft
          have wt := hw to hto
          have n0 : w' to ≠ 0 := fun y => st (hSt.mpr y)
          exact a4 ⟨by decide, by omega⟩
      rw [tf_f st, if_pos rfl, if_pos u]
      exact ⟨-2, D, E2, rfl, rfl, fun _ _ _ => rfl, fE, Or.inl rfl⟩
  · have n0 : w' fr ≠ 0 := fun y => sf (hSf.mpr y)
    rw [tf_f sf, if_pos rfl, if_neg (show ¬ w' fr ≤ 0 by omega), td_bs, if_pos t100, if_pos (y3 to hto).1]
    exact ⟨-2, D, E1, rfl, rfl, fun _ _ _ => rfl, y2, Or.inl rfl⟩
/-- way -/
theorem st_15 : ls_15 lw_R := by
  intro a1 a2 Dc Dm _ _ _ hR
  obtain ⟨⟨l1, ⟨l2, l2a, l2b⟩, -⟩, -⟩ := id hR
  refine lk_R ?_ hR
  unfold F_X11_way F_X12_way
  simp only [fe_isCell, fm_isCell, tb_s, tf_0, fm_layNow]
  by_cases c1 : 0 ≤ a1 ∧ a1 ≤ 99
  · by_cases c2 : 0 ≤ a2 ∧ a2 ≤ 99
    · obtain ⟨D1, E1, x1, x2, x3, x4, x5, x6⟩ := lk_look hR
      obtain ⟨r, D', E', s1, s2, s3, s4, s5⟩ := lk_steps (fr := a1.toNat) (to := a2.toNat) (mo := 0) (fa := -1) (w := D1 24) (w' := wi_o Dc) (D := D1) (E := E1) (by omega) (by omega) (by omega) (by omega) rfl x6 (fun b _ => ⟨(wi_b Dc l2b b).1, by have := (wi_b Dc l2b b).2; omega⟩) (fun b hb => by
        unfold sa_o
        rw [x4 b hb]
        have d := da_b (a := (b : Int)) (b := 0) (by omega) (by omega) (by omega) (by omega)
        constructor
        · exact fun h => h.1
        · exact fun h => ⟨h, by omega⟩)
      rw [show ((a1.toNat : Nat) : Int) = a1 by omega, show ((a2.toNat : Nat) : Int) = a2 by omega] at s1 s2
      simp only [if_neg (show ¬ ¬ (0 ≤ a1 ∧ a1 ≤ 99) from fun q => q c1), if_neg (show ¬ ¬ (0 ≤ a2 ∧ a2 ≤ 99) from fun q => q c2), x1, x2, tb_s, s1, s2]
      refine lk_1 rfl ⟨fun r q => ?_, ?_⟩ ⟨fun r q => ?_, fun j _ => ?_⟩
      · rw [s3 r (fun z => by rw [z] at q; cases q) (fun z => by rw [z] at q; cases q)]
        exact x3 r (fun z => by rw [z] at q; cases q)
      · rw [s3 10 (by decide) (by decide), x3 10 (by decide)]
      · rw [s4 r (fun z => by rw [z] at q; cases q) (fun z => by rw [z] at q; cases q) (fun z => by rw [z] at q; cases q)]
        exact x5 r (fun z => by rw [z] at q; cases q) (fun z => by rw [z] at q; cases q)
      · rw [s4 1 (by decide) (by decide) (by decide), x5 1 (by decide) (by decide)]
    · simp only [if_neg (show ¬ ¬ (0 ≤ a1 ∧ a1 ≤ 99) from fun q => q c1), if_pos c2]
      exact lk_0 rfl
  · simp only [if_pos c1]
    exact lk_0 rfl
/-- set: how many cells are stung from one -/
def cw_o (c fa : Int) : Int := cn_o (fun b => decide (da_o (b : Int) c ≤ fa)) 100
theorem fe_cw {c fa : Int} {D : td_D} (c1 : 0 ≤ c) (c2 : c ≤ 99) : ∀ (m n : Nat), n ≤ 100 → 100 - n < m → F_X10_cellsWithin_4 m c fa (cn_o (fun b => decide (da_o (b : Int) c ≤ fa)) n) (n : Int) D = some (cw_o c fa, D) := by
  intro m
  induction m with
  | zero => intro n q1 q2; omega
  | succ m ih =>
    intro n q1 q2
    unfold F_X10_cellsWithin_4
    by_cases z : (100 : Int) ≤ (n : Int)
    · rw [if_pos z, show n = 100 by omega]
      rfl
    · have cb := @cn_b (fun b => decide (da_o (b : Int) c ≤ fa)) n
      have i := ih (n + 1) (by omega) (by omega)
      rw [show ((n + 1 : Nat) : Int) = (n : Int) + 1 by omega] at i
      rw [if_neg z, fe_apart (by omega) (by omega) c1 c2, td_bs, tw_s (a := (n : Int) + 1) (by omega) (by omega), tw_s (a := cn_o (fun b => decide (da_o (b : Int) c ≤ fa)) n + 1) (by omega) (by omega), tw_s (a := cn_o (fun b => decide (da_o (b : Int) c ≤ fa)) n + 0) (by omega) (by omega), Int.add_zero]
      by_cases y : fa < da_o (n : Int) c
      · rw [if_pos y]
        rw [cn_f (fun z => by have := of_decide_eq_true z; omega)] at i
        exact i
      · rw [if_neg y]
        rw [cn_t (show decide (da_o (n : Int) c ≤ fa) = true from decide_eq_true (by omega))] at i
        exact i
theorem fm_sets {c fa by' : Int} (c1 : 0 ≤ c) (c2 : c ≤ 99) (hb : by' = 1 ∨ by' = -1) : ∀ (m n : Nat) (E : td_D), n ≤ 100 → 100 - n < m → (∀ b : Nat, b < 100 → n ≤ b → -10 ≤ E 26 b ∧ E 26 b ≤ 1000) → ∃ E' : td_D, F_X12_sets_6 m c fa by' (cn_o (fun b => decide (da_o (b : Int) c ≤ fa)) n) (n : Int) E = some (cw_o c fa, E') ∧ (∀ x : Nat, x ≠ 26 → E' x = E x) ∧ ∀ b : Nat, b < 100 → E' 26 b = if n ≤ b ∧ da_o (b : Int) c ≤ fa then E 26 b + by' else E 26 b := by
  intro m
  induction m with
  | zero => intro n E q1 q2; omega
  | succ m ih =>
    intro n E q1 q2 hE
    unfold F_X12_sets_6
    by_cases z : (100 : Int) ≤ (n : Int)
    · rw [if_pos z, show n = 100 by omega]
      exact ⟨E, rfl, fun _ _ => rfl, fun b hb => by rw [if_neg (by omega)]⟩
    · have cb := @cn_b (fun b => decide (da_o (b : Int) c ≤ fa)) n
      have en := hE n (by omega) (Nat.le_refl _)
      rw [if_neg z, fm_stingsIn c1 c2 (by omega) (by omega), td_bs, tw_s (a := (n : Int) + 1) (by omega) (by omega), tw_s (a := cn_o (fun b => decide (da_o (b : Int) c ≤ fa)) n + 1) (by omega) (by omega)]
      by_cases y : da_o (n : Int) c ≤ fa
      · rw [tf_t y, if_neg (show ¬ (1 : Int) = 0 by decide), if_pos (by omega), td_ls, Int.toNat_natCast, tw_s (a := E 26 n + by') (by omega) (by omega)]
        obtain ⟨E', e1, e2, e3⟩ := ih (n + 1) (td_upd E 26 n (E 26 n + by')) (by omega) (by omega) (fun b hb hn => by
          rw [tu_at, tu_ne (by omega)]
          exact hE b hb (by omega))
        rw [cn_t (show decide (da_o (n : Int) c ≤ fa) = true from decide_eq_true y), show ((n + 1 : Nat) : Int) = (n : Int) + 1 by omega] at e1
        refine ⟨E', e1, fun x hx => (e2 x hx).trans (tu_row hx), fun b hb => ?_⟩
        rw [e3 b hb, tu_at]
        unfold tv_up
        by_cases e : b = n
        · rw [if_neg (by omega), if_pos e, e, if_pos ⟨Nat.le_refl _, y⟩]
        · rw [if_neg e]
          by_cases w : n + 1 ≤ b ∧ da_o (b : Int) c ≤ fa
          · rw [if_pos w, if_pos ⟨by omega, w.2⟩]
          · rw [if_neg w, if_neg (fun v => w ⟨by omega, v.2⟩)]
      · rw [tf_f y, if_pos rfl]
        obtain ⟨E', e1, e2, e3⟩ := ih (n + 1) E (by omega) (by omega) (fun b hb hn => hE b hb (by omega))
        rw [cn_f (fun w => y (of_decide_eq_true w)), show ((n + 1 : Nat) : Int) = (n : Int) + 1 by omega] at e1
        refine ⟨E', e1, e2, fun b hb => ?_⟩
        rw [e3 b hb]
        by_cases w : n + 1 ≤ b ∧ da_o (b : Int) c ≤ fa
        · rw [if_pos w, if_pos ⟨by omega, w.2⟩]
        · rw [if_neg w]
          rw [if_neg (fun v => by
            by_cases e : b = n
            · rw [e] at v; exact y v.2
            · exact w ⟨by omega, v.2⟩)]
