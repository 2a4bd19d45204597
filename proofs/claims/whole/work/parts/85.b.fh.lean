/-- what goes on behind a day of every hive, on the model's side -/
def gd_o (m : Nat) (Dm : td_D) (pe hi : Int) (d v : Int) (f f' : Nat → Int) : Prop := ∀ X : td_D, fm_o Dm X → p_th pe hi f (X 21) → ∃ X' : td_D, (∀ (k53 : Int → Int → Int → Int → Int → Int → td_D → Option (Int × td_D)) (k69 : Int → Int → Int → Int → Int → Int → Int → td_D → Option (Int × td_D)) (v2 v3 v4 v5 v6 v7 : Int), F_X12_drawn_151 k53 k69 m v2 v3 v4 v5 v6 v7 d v X = k69 v2 v3 v4 v5 v6 v7 (d + 1) X') ∧ fm_o Dm X' ∧ p_th pe hi f' (X' 21)
/-- one day foreseen -/
theorem lk_fh {da : Int} {Dc Dm : td_D} (hR : lw_R Dc Dm) {f : Nat → Int} {d : Nat} (d30 : d < 30) (kc : Int → Int → td_D → Option (Int × td_D)) : ∀ (m v : Nat) (D E : td_D) (g : Nat → Int), (v : Int) ≤ Dc 2 1 → Dc 2 1 - (v : Int) < (m : Int) → dy_o (wf_o Dc g) Dm D E → p_th (Dc 2 0) (Dc 2 1) (D 22) (E 21) → (∀ i : Nat, 6 * v ≤ i → i < 30 → D 22 i = f i) → D 6 = Dc 6 →
    ∃ (D' E' : td_D) (g' : Nat → Int), F_X11_foreseeMonth_23 kc m da (d : Int) (v : Int) D = kc da ((d : Int) + 1) D' ∧ dy_o (wf_o Dc g') Dm D' E' ∧ p_th (Dc 2 0) (Dc 2 1) (D' 22) (E' 21) ∧ D' 6 = Dc 6 ∧ (∀ j : Nat, j < 5 * d + v ∨ 5 * d + 5 ≤ j → g' j = g j) ∧ (∀ h : Nat, v ≤ h → (h : Int) < Dc 2 1 → g' (5 * d + h) = fo_o (al_o f (h : Int)) (Dc 2 10)) ∧ gd_o m Dm (Dc 2 0) (Dc 2 1) (d : Int) (v : Int) (D 22) (D' 22) := by
  obtain ⟨⟨⟨l1, l1a, l1b⟩, ⟨l2, l2a, l2b⟩, -⟩, ⟨-, ⟨s2, s2a, s2b⟩, -⟩, -⟩ := id hR
  have x13 : ∀ X : td_D, fm_o Dm X → X 1 3 = Dc 2 1 := fun X hX => by
    rw [hX 1 (by decide) (by decide) (by decide) (by decide)]
    exact l2
  intro m
  induction m with
  | zero => intro v D E g q1 q2; omega
  | succ m ih =>
    intro v D E g q1 q2 dy ht hf h6
    have d2 : D 2 = Dc 2 := (dy.1 2 (by decide) (by decide) (by decide) (by decide) (by decide)).trans (wf_ne (by decide))
    by_cases c : Dc 2 1 ≤ (v : Int)
    · refine ⟨D, E, g, ?_, dy, ht, h6, fun _ _ => rfl, fun h y1 y2 => by omega, fun X hX hp => ⟨X, fun k53 k69 v2 v3 v4 v5 v6 v7 => ?_, hX, hp⟩⟩
      · unfold F_X11_foreseeMonth_23
        rw [d2, if_pos c, tw_s (a := (d : Int) + 1) (by omega) (by omega)]
      · unfold F_X12_drawn_151
        rw [x13 X hX, if_pos c, tw_s (a := (d : Int) + 1) (by omega) (by omega)]
    · have n1 : 0 ≤ (v : Int) := Int.natCast_nonneg v
      have n2 : (v : Int) < Dc 2 1 := Int.not_le.mp c
      have n3 : v < 5 := by omega
      have k1 : ∀ i : Nat, 6 * (v + 1) ≤ i → 6 * v ≤ i ∧ ¬ (6 * (v : Int) ≤ (i : Int) ∧ (i : Int) < 6 * (v : Int) + 6) := fun i _ => by omega
      have k2 : ∀ j : Nat, j < 5 * d + v ∨ 5 * d + 5 ≤ j → (j < 5 * d + (v + 1) ∨ 5 * d + 5 ≤ j) ∧ j ≠ 5 * d + v := fun j _ => by omega
      have k3 : 0 ≤ ((5 * d + v : Nat) : Int) ∧ ((5 * d + v : Nat) : Int) < ((150 : Nat) : Int) := by omega
      have k4 : ∀ h : Nat, v ≤ h → h ≠ v → v + 1 ≤ h := fun h _ _ => by omega
      have k5 : tv_w ((v : Int) + 1) = (v : Int) + 1 := tw_s (by omega) (by omega)
      have k6 : ∀ i : Nat, i < 6 * v + 6 → i < 30 := fun i _ => by omega
      have k7 : 5 * d + v < 5 * d + (v + 1) ∨ 5 * d + 5 ≤ 5 * d + v := by omega
      have m1 : ((v + 1 : Nat) : Int) ≤ Dc 2 1 := by omega
      have m2 : Dc 2 1 - ((v + 1 : Nat) : Int) < (m : Int) := by omega
      have ev : ((v + 1 : Nat) : Int) = (v : Int) + 1 := by omega
      have hq : ∀ i : Nat, i < 30 → 0 ≤ D 22 i ∧ D 22 i ≤ 99 := fun i hi => (ht.1 i hi).2
      have A := fe_allIn (q := 21) (h := (v : Int)) (D := D) (by rw [tr_21]; exact hq) n1 (by omega)
      rw [tr_21] at A
      have ab := al_b hq (h := (v : Int)) n1 (by omega)
      have fa := fe_farOf (D := D) ab.1 (by omega) (by rw [d2]; exact s2a)
      rw [d2] at fa
      have ej : tv_w (tv_w ((d : Int) * 5) + (v : Int)) = ((5 * d + v : Nat) : Int) := by
        rw [tw_s (a := (d : Int) * 5) (by omega) (by omega), tw_s (by omega) (by omega)]
        omega
      have dyw := wf_up (j := 5 * d + v) (v := fo_o (al_o (D 22) (v : Int)) (Dc 2 10)) dy
      have w22 : td_upd D 59 (5 * d + v) (fo_o (al_o (D 22) (v : Int)) (Dc 2 10)) 22 = D 22 := tu_row (by decide)
      have w6 : td_upd D 59 (5 * d + v) (fo_o (al_o (D 22) (v : Int)) (Dc 2 10)) 6 = D 6 := tu_row (by decide)
      obtain ⟨c1, D1, E1, a0, a1, a2, a3, a4, a5, a6, a7⟩ := lk_dayw (h := (v : Int)) (d := (d : Int)) hR dyw (by rw [w22]; exact ht) n1 n2
      rw [w22] at a0
      obtain ⟨D', E', g', b1, b2, b3, b4, b5, b6, b7⟩ := ih (v + 1) D1 E1 _ m1 m2 a4 a5 (fun i i1 i2 => (a0 i i2 (k1 i i1).2).trans (hf i (k1 i i1).1 i2)) ((a6 6 (by decide) (by decide) (by decide) (by decide)).trans (w6.trans h6))
      rw [ev] at b1 b7
      refine ⟨D', E', g', ?_, b2, b3, b4, fun j hj => ?_, fun h y1 y2 => ?_, fun X hX hp => ?_⟩
      · unfold F_X11_foreseeMonth_23
        rw [d2, if_neg c, A, td_bs, fa, td_bs, ej, if_pos k3, td_ls, Int.toNat_natCast, a1, td_bs, k5]
        exact b1
      · rw [b5 j (k2 j hj).1]
        exact tu_ne (k2 j hj).2
      · by_cases z : h = v
        · subst z
          rw [b5 _ k7, tu_same, al_cw (f := D 22) (g := f) (h := h) (fun i i1 i2 => hf i i1 (k6 i i2))]
        · exact b6 h (k4 h y1 z) y2
      · obtain ⟨cX, DX, EX, -, e1, e2, -, e4, e5, -, -⟩ := lk_dayw (h := (v : Int)) (d := (d : Int)) (E := X) hR ⟨dyw.1, hX⟩ (by rw [w22]; exact hp) n1 n2
        have e9 := a1.symm.trans e1
        have e10 : D1 = DX := congrArg Prod.snd (Option.some.inj e9)
        subst e10
        obtain ⟨X', x1, x2, x3⟩ := b7 EX e4.2 e5
        refine ⟨X', fun k53 k69 v2 v3 v4 v5 v6 v7 => ?_, x2, x3⟩
        unfold F_X12_drawn_151
        rw [x13 X hX, if_neg c, e2, td_bs, k5]
        exact x1 k53 k69 v2 v3 v4 v5 v6 v7
