/-- set -/
theorem lk_set {fr to : Nat} {v fa now what ft : Int} {w : Nat → Int} {Dc Dm : td_D} (hfr : fr < 100) (hto : to < 100) (e1 : tv_div ft 100 = (fr : Int)) (e2 : tv_rem ft 100 = (to : Int)) (wb : ∀ b : Nat, b < 100 → 0 ≤ w b ∧ w b ≤ 5) (hn : now = -2 ∨ 0 ≤ now) (v1 : 0 ≤ v) (v2 : v ≤ 99) (hfa : ∀ E : td_D, (∀ x : Nat, x ≠ 26 → x ≠ 27 → x ≠ 28 → x ≠ 29 → E x = Dm x) → F_X12_stingsTo v E = some (fa, E)) : ∀ (m : Nat) (bc mc bm mm c : Int) (D E : td_D), 0 ≤ c → c ≤ 100 → 100 - c < m → (∀ b : Nat, b < 100 → D 24 b = w b) → (∀ b : Nat, b < 100 → E 26 b = w b) → (∀ x : Nat, x ≠ 25 → x ≠ 26 → D x = Dc x) → (∀ x : Nat, x ≠ 26 → x ≠ 27 → x ≠ 28 → x ≠ 29 → E x = Dm x) → ((bc = -1 ∧ mc = -1 ∧ bm = -2 ∧ mm = -2) ∨ (bm = bc ∧ mm = mc ∧ 0 ≤ bc ∧ bc ≤ 99 ∧ mc = cw_o bc fa)) → ∃ (b : Int) (D' E' : td_D), F_X10_bestCell_19 m (fr : Int) (to : Int) fa now bc mc c D = some (b, D') ∧ F_X12_set_65 m ft v what now bm mm c E = some (if what = 0 then (if b < 0 then -2 else b) else (if b < 0 then -2 else cw_o b fa), E') ∧ (b = -1 ∨ (0 ≤ b ∧ b ≤ 99)) ∧ (∀ x : Nat, x ≠ 25 → x ≠ 26 → D' x = Dc x) ∧ ∀ x : Nat, x ≠ 26 → x ≠ 27 → x ≠ 28 → x ≠ 29 → E' x = Dm x := by
  intro m
  induction m with
  | zero => intro bc mc bm mm c D E q1 q2 q3; omega
  | succ m ih =>
    intro bc mc bm mm c D E q1 q2 q3 hD hE fD fE rel
    have stop : ∃ (b : Int) (D' E' : td_D), some (bc, D) = some (b, D') ∧ (if what = 0 then some (bm, E) else some (mm, E)) = some (if what = 0 then (if b < 0 then -2 else b) else (if b < 0 then -2 else cw_o b fa), E') ∧ (b = -1 ∨ (0 ≤ b ∧ b ≤ 99)) ∧ (∀ x : Nat, x ≠ 25 → x ≠ 26 → D' x = Dc x) ∧ ∀ x : Nat, x ≠ 26 → x ≠ 27 → x ≠ 28 → x ≠ 29 → E' x = Dm x := by
      refine ⟨bc, D, E, rfl, ?_, ?_, fD, fE⟩
      · rcases rel with ⟨r1, r2, r3, r4⟩ | ⟨r1, r2, r3, r4, r5⟩
        · rw [r3, r4, if_pos (show bc < 0 by omega), if_pos (show bc < 0 by omega)]
          split <;> rfl
        · rw [r1, r2, r5, if_neg (show ¬ bc < 0 by omega), if_neg (show ¬ bc < 0 by omega)]
          split <;> rfl
      · omega
    unfold F_X10_bestCell_19 F_X12_set_65
    by_cases z : 100 ≤ c
    · rw [if_pos z, if_pos z]
      exact stop
    · rw [if_neg z, if_neg z]
      by_cases y : now = -2
      · rw [if_pos y, if_pos (show now < 0 by omega)]
        exact stop
      · rw [if_neg y, if_neg (show ¬ now < 0 by omega)]
        have CW : ∀ X : td_D, F_X10_cellsWithin c fa X = some (cw_o c fa, X) := fun X => by
          unfold F_X10_cellsWithin
          exact fe_cw q1 (by omega) tf_N 0 (by omega) (by unfold tf_N; omega)
        have cwb := @cn_b (fun b => decide (da_o (b : Int) c ≤ fa)) 100
        have cwe : cw_o c fa = cn_o (fun b => decide (da_o (b : Int) c ≤ fa)) 100 := rfl
        obtain ⟨E1, s1, s2, s3⟩ := fm_sets (c := c) (fa := fa) (by' := 1) q1 (by omega) (Or.inl rfl) tf_N 0 E (by omega) (by unfold tf_N; omega) (fun b hb _ => by
          rw [hE b hb]
          have x := wb b hb
          omega)
        have S1 : F_X12_sets c fa 1 E = some (cw_o c fa, E1) := by
          unfold F_X12_sets
          exact s1
        have w1 : ∀ b : Nat, b < 100 → E1 26 b = w b + (if da_o (b : Int) c ≤ fa then 1 else 0) := fun b hb => by
          rw [s3 b hb, hE b hb]
          by_cases k : da_o (b : Int) c ≤ fa
          · rw [if_pos ⟨Nat.zero_le _, k⟩, if_pos k]
          · rw [if_neg (fun x => k x.2), if_neg k, Int.add_zero]
        obtain ⟨r, D1, E2, g1, g2, g3, g4, g5⟩ := lk_steps (fr := fr) (to := to) (mo := c) (fa := fa) (w := D 24) (w' := fun b => w b + (if da_o (b : Int) c ≤ fa then 1 else 0)) (D := D) (E := E1) q1 (by omega) hfr hto rfl w1 (fun b hb => by
          have x := wb b hb
          show 0 ≤ w b + (if da_o (b : Int) c ≤ fa then 1 else 0) ∧ w b + (if da_o (b : Int) c ≤ fa then 1 else 0) ≤ 6
          split <;> omega) (fun b hb => by
          have x := wb b hb
          show (D 24 b = 0 ∧ fa < da_o (b : Int) c) ↔ w b + (if da_o (b : Int) c ≤ fa then 1 else 0) = 0
          rw [hD b hb]
          split <;> constructor <;> intro h <;> omega)
        have e26 : E2 26 = E1 26 := g4 26 (by decide) (by decide) (by decide)
        obtain ⟨E3, u1, u2, u3⟩ := fm_sets (c := c) (fa := fa) (by' := -1) q1 (by omega) (Or.inr rfl) tf_N 0 E2 (by omega) (by unfold tf_N; omega) (fun b hb _ => by
          rw [e26, w1 b hb]
          have x := wb b hb
          split <;> omega)
        have S2 : F_X12_sets c fa (-1) E2 = some (cw_o c fa, E3) := by
          unfold F_X12_sets
          exact u1
        have h3 : ∀ b : Nat, b < 100 → E3 26 b = w b := fun b hb => by
          rw [u3 b hb, e26, w1 b hb]
          by_cases k : da_o (b : Int) c ≤ fa
          · rw [if_pos ⟨Nat.zero_le _, k⟩, if_pos k]
            omega
          · rw [if_neg (fun x => k x.2), if_neg k, Int.add_zero]
        have f2 : ∀ x : Nat, x ≠ 26 → x ≠ 27 → x ≠ 28 → x ≠ 29 → E2 x = Dm x := fun x x1 x2 x3 x4 => by
          rw [g4 x x2 x3 x4, s2 x x1]
          exact fE x x1 x2 x3 x4
        have f3 : ∀ x : Nat, x ≠ 26 → x ≠ 27 → x ≠ 28 → x ≠ 29 → E3 x = Dm x := fun x x1 x2 x3 x4 => (u2 x x1).trans (f2 x x1 x2 x3 x4)
        rw [CW, td_bs, hfa E fE, td_bs, S1, td_bs, e1, e2, g2, td_bs, hfa E2 f2, td_bs, S2, td_bs, tw_s (a := c + 1) (by omega) (by omega)]
        by_cases k : cw_o c fa ≤ mc
        · rw [if_pos k]
          rcases rel with ⟨r1, r2, r3, r4⟩ | ⟨r1, r2, r3, r4, r5⟩
          · exfalso; omega
          · have I := ih bc mc bm mm (c + 1) D E3 (by omega) (by omega) (by omega) hD h3 fD f3 (Or.inr ⟨r1, r2, r3, r4, r5⟩)
            by_cases rn : r = now
            · rw [if_pos rn, if_neg (show ¬ bm < 0 by omega), if_neg (show ¬ mm < cw_o c fa by omega)]
              exact I
            · rw [if_neg rn]
              exact I
        · rw [if_neg k, g1, td_bs]
          have fD1 : ∀ x : Nat, x ≠ 25 → x ≠ 26 → D1 x = Dc x := fun x x1 x2 => (g3 x x1 x2).trans (fD x x1 x2)
          have hD1 : ∀ b : Nat, b < 100 → D1 24 b = w b := fun b hb => by rw [g3 24 (by decide) (by decide)]; exact hD b hb
          by_cases rn : r = now
          · rw [if_pos rn, if_pos rn]
            have I := ih c (cw_o c fa) c (cw_o c fa) (c + 1) D1 E3 (by omega) (by omega) (by omega) hD1 h3 fD1 f3 (Or.inr ⟨rfl, rfl, q1, by omega, rfl⟩)
            by_cases b0 : bm < 0
            · rw [if_pos b0]
              exact I
            · rw [if_neg b0, if_pos (show mm < cw_o c fa by omega)]
              exact I
          · rw [if_neg rn, if_neg rn]
            exact ih bc mc bm mm (c + 1) D1 E3 (by omega) (by omega) (by omega) hD1 h3 fD1 f3 rel
theorem st_17 : ls_17 lw_R := by
  intro a1 a2 a3 Dc Dm i1 _ _ _ hR
  obtain ⟨⟨l1, ⟨l2, l2a, l2b⟩, -⟩, ⟨-, ⟨s2, s2a, s2b⟩, -⟩, -⟩ := id hR
  refine lk_R ?_ hR
  have j1 := i1.2
  unfold F_X11_set F_X12_set
  by_cases c0 : a1 < 0
  · rw [if_pos c0, if_pos c0]
    exact lk_0 rfl
  · have d1 : tv_div a1 100 = a1 / 100 := tv_dv (by omega) j1 (by omega)
    have d2 : tv_rem a1 100 = a1 % 100 := tv_rme (by omega)
    rw [if_neg c0, if_neg c0]
    simp only [fe_isCell, fm_isCell, fe_isTemper, fm_isMuch, fm_in, tb_s, tf_0, fm_layNow, d1, d2]
    by_cases c1 : 0 ≤ a1 / 100 ∧ a1 / 100 ≤ 99
    · by_cases c2 : 0 ≤ a2 ∧ a2 ≤ 99
      · by_cases c3 : 0 ≤ a3 ∧ a3 ≤ 1
        · obtain ⟨D1, E1, x1, x2, x3, x4, x5, x6⟩ := lk_look hR
          have fr0 : ((a1 / 100).toNat : Int) = a1 / 100 := by omega
          have to0 : ((a1 % 100).toNat : Int) = a1 % 100 := by omega
          obtain ⟨r, D2, E2, s1, t2, s3, s4, s5⟩ := lk_steps (fr := (a1 / 100).toNat) (to := (a1 % 100).toNat) (mo := 0) (fa := -1) (w := D1 24) (w' := wi_o Dc) (D := D1) (E := E1) (by omega) (by omega) (by omega) (by omega) rfl x6 (fun b _ => ⟨(wi_b Dc l2b b).1, by have := (wi_b Dc l2b b).2; omega⟩) (fun b hb => by
            unfold sa_o
            rw [x4 b hb]
            have d := da_b (a := (b : Int)) (b := 0) (by omega) (by omega) (by omega) (by omega)
            constructor
            · exact fun h => h.1
            · exact fun h => ⟨h, by omega⟩)
          have FA : F_X3_farOf a2 D1 = some (fo_o a2 (Dc 2 10), D1) := by
            rw [fe_farOf c2.1 (by omega) (by rw [x3 2 (by decide)]; exact s2a), x3 2 (by decide)]
          obtain ⟨b, D3, E3, k1, k2, k3, k4, k5⟩ := lk_set (Dc := D1) (Dm := E1) (fr := (a1 / 100).toNat) (to := (a1 % 100).toNat) (v := a2) (fa := fo_o a2 (Dc 2 10)) (now := r) (what := a3) (ft := a1) (w := wi_o Dc) (by omega) (by omega) (by rw [d1]; exact fr0.symm) (by rw [d2]; exact to0.symm) (fun b _ => wi_b Dc l2b b) s5 c2.1 c2.2 (fun E hE => by
            have e8 : E 8 1 = Dc 2 10 := by
              rw [hE 8 (by decide) (by decide) (by decide) (by decide), x5 8 (by decide) (by decide)]
              exact s2
            rw [fm_stingsTo c2.1 (by omega) (by omega), e8]) tf_N (-1) (-1) (-2) (-2) 0 D2 E2 (by omega) (by omega) (by unfold tf_N; omega) (fun b hb => by rw [s3 24 (by decide) (by decide)]; exact x4 b hb) (fun b hb => by rw [s4 26 (by decide) (by decide) (by decide)]; exact x6 b hb) s3 (fun x y1 y2 y3 y4 => s4 x y2 y3 y4) (Or.inl ⟨rfl, rfl, rfl, rfl⟩)
          have BC : F_X10_bestCell (a1 / 100) (a1 % 100) (fo_o a2 (Dc 2 10)) D1 = some (b, D3) := by
            unfold F_X10_bestCell
            rw [← fr0, ← to0, s1, td_bs]
            exact k1
          rw [fr0, to0] at t2
          have fc : fr_c Dc D3 := ⟨fun r q => by
            rw [k4 r (fun z => by rw [z] at q; cases q) (fun z => by rw [z] at q; cases q)]
            exact x3 r (fun z => by rw [z] at q; cases q), by rw [k4 10 (by decide) (by decide), x3 10 (by decide)]⟩
          have fm : fr_m Dm E3 := ⟨fun r q => by
            rw [k5 r (fun z => by rw [z] at q; cases q) (fun z => by rw [z] at q; cases q) (fun z => by rw [z] at q; cases q) (fun z => by rw [z] at q; cases q)]
            exact x5 r (fun z => by rw [z] at q; cases q) (fun z => by rw [z] at q; cases q), fun j _ => by rw [k5 1 (by decide) (by decide) (by decide) (by decide), x5 1 (by decide) (by decide)]⟩
          simp only [if_neg (show ¬ ¬ (0 ≤ a1 / 100 ∧ a1 / 100 ≤ 99) from fun q => q c1), if_neg (show ¬ ¬ (0 ≤ a2 ∧ a2 ≤ 99) from fun q => q c2), if_neg (show ¬ ¬ (0 ≤ a3 ∧ a3 ≤ 1) from fun q => q c3), if_neg (show ¬ a3 < 0 by omega), if_pos c3.2, x1, x2, tb_s, FA, BC, t2, k2]
          by_cases b0 : b < 0
          · rw [if_neg (show ¬ 0 ≤ b by omega), if_pos b0, if_pos b0]
            split <;> exact lk_1 rfl fc fm
          · have CW : F_X10_cellsWithin b (fo_o a2 (Dc 2 10)) D3 = some (cw_o b (fo_o a2 (Dc 2 10)), D3) := by
              unfold F_X10_cellsWithin
              exact fe_cw (by omega) (by omega) tf_N 0 (by omega) (by unfold tf_N; omega)
            rw [if_pos (show 0 ≤ b by omega), if_neg b0, if_neg b0, CW, td_bs]
            by_cases w0 : a3 = 0
            · rw [if_pos w0, if_pos w0]
              exact lk_1 rfl fc fm
            · rw [if_neg w0, if_neg w0]
              exact lk_1 rfl fc fm
        · simp only [if_neg (show ¬ ¬ (0 ≤ a1 / 100 ∧ a1 / 100 ≤ 99) from fun q => q c1), if_neg (show ¬ ¬ (0 ≤ a2 ∧ a2 ≤ 99) from fun q => q c2), if_pos c3]
          by_cases c4 : a3 < 0
          · rw [if_pos c4]
            exact lk_0 rfl
          · rw [if_neg c4, if_neg (by omega)]
            exact lk_0 rfl
      · simp only [if_neg (show ¬ ¬ (0 ≤ a1 / 100 ∧ a1 / 100 ≤ 99) from fun q => q c1), if_pos c2]
        exact lk_0 rfl
    · simp only [if_pos c1]
      exact lk_0 rfl
