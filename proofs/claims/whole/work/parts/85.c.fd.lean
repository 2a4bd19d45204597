/-- a month foreseen -/
theorem lk_fd {da : Nat} {Dc Dm : td_D} (hR : lw_R Dc Dm) (d30 : da ≤ 30) : ∀ (m d : Nat) (D E : td_D) (g : Nat → Int), d ≤ da → da - d < m → dy_o (wf_o Dc g) Dm D E → p_th (Dc 2 0) (Dc 2 1) (D 22) (E 21) → D 6 = Dc 6 →
    ∃ (D' E' : td_D) (g' : Nat → Int) (F : Nat → Nat → Int), F_X11_foreseeMonth_16 m (da : Int) (d : Int) D = some (0, D') ∧ dy_o (wf_o Dc g') Dm D' E' ∧ D' 6 = Dc 6 ∧ F d = D 22 ∧ (∀ j : Nat, j < 5 * d → g' j = g j) ∧ (∀ e h : Nat, d ≤ e → e < da → (h : Int) < Dc 2 1 → g' (5 * e + h) = fo_o (al_o (F e) (h : Int)) (Dc 2 10)) ∧ ∀ e : Nat, d ≤ e → e < da → gd_o tf_N Dm (Dc 2 0) (Dc 2 1) (e : Int) 0 (F e) (F (e + 1)) := by
  obtain ⟨⟨-, ⟨l2, l2a, l2b⟩, -⟩, -⟩ := id hR
  intro m
  induction m with
  | zero => intro d D E g q1 q2; omega
  | succ m ih =>
    intro d D E g q1 q2 dy ht h6
    by_cases c : (da : Int) ≤ (d : Int)
    · refine ⟨D, E, g, fun _ => D 22, ?_, dy, h6, rfl, fun _ _ => rfl, fun e h y1 y2 => by omega, fun e y1 y2 => by omega⟩
      unfold F_X11_foreseeMonth_16
      rw [if_pos c]
    · have n1 : d < 30 := by omega
      have n2 : d + 1 ≤ da := by omega
      have n3 : da - (d + 1) < m := by omega
      have n4 : ((0 : Nat) : Int) ≤ Dc 2 1 := l2a
      have n5 : Dc 2 1 - ((0 : Nat) : Int) < (tf_N : Int) := by unfold tf_N; omega
      have ev : ((d + 1 : Nat) : Int) = (d : Int) + 1 := by omega
      have k1 : ∀ j : Nat, j < 5 * d → j < 5 * (d + 1) ∧ (j < 5 * d + 0 ∨ 5 * d + 5 ≤ j) := fun j _ => by omega
      have k2 : ∀ h : Nat, (h : Int) < Dc 2 1 → 5 * d + h < 5 * (d + 1) := fun h _ => by omega
      have k3 : ∀ e : Nat, d ≤ e → e ≠ d → d + 1 ≤ e := fun e _ _ => by omega
      have k4 : ∀ e : Nat, d ≤ e → e + 1 ≠ d := fun e _ => by omega
      obtain ⟨D1, E1, g1, a1, a2, a3, a4, a5, a6, a7⟩ := lk_fh (da := (da : Int)) (f := D 22) (d := d) hR n1 (fun v1 v2 D => F_X11_foreseeMonth_16 m v1 v2 D) tf_N 0 D E g n4 n5 dy ht (fun _ _ _ => rfl) h6
      obtain ⟨D', E', g', F, b1, b2, b3, b4, b5, b6, b7⟩ := ih (d + 1) D1 E1 g1 n2 n3 a2 a3 a4
      rw [ev] at b1
      refine ⟨D', E', g', fun e => if e = d then D 22 else F e, ?_, b2, b3, if_pos rfl, fun j hj => (b5 j (k1 j hj).1).trans (a5 j (k1 j hj).2), fun e h y1 y2 y3 => ?_, fun e y1 y2 => ?_⟩
      · unfold F_X11_foreseeMonth_16
        rw [if_neg c]
        exact a1.trans b1
      · show _ = fo_o (al_o (if e = d then D 22 else F e) _) _
        by_cases z : e = d
        · rw [if_pos z, z, b5 _ (k2 h y3)]
          exact a6 h (Nat.zero_le h) y3
        · rw [if_neg z]
          exact b6 e h (k3 e y1 z) y2 y3
      · show gd_o tf_N Dm _ _ _ _ (if e = d then D 22 else F e) (if e + 1 = d then D 22 else F (e + 1))
        rw [if_neg (k4 e y1)]
        by_cases z : e = d
        · rw [if_pos z, z, b4]
          exact a7
        · rw [if_neg z]
          exact b7 e (k3 e y1 z) y2
