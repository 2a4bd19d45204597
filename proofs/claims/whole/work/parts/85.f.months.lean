theorem lk_months {wh mo nm : Int} {da : Nat} {Dc Dm Df Dw : td_D} {F : Nat → Nat → Int} (hR : lw_R Dc Dm) (n1 : (da : Int) = nm % 100) (m1 : mo = nm / 100) (n0 : 0 ≤ nm) (n2 : nm ≤ 2147483647) (d2 : da ≤ 30) (m2 : mo ≤ 30) (D2 : Df 2 = Dc 2) (D4 : Df 4 = Dc 4) (G : ∀ e h : Nat, e < da → (h : Int) < Dc 2 1 → Df 59 (5 * e + h) = fo_o (al_o (F e) (h : Int)) (Dc 2 10)) (ST : ∀ e : Nat, e < da → gd_o tf_N Dm (Dc 2 0) (Dc 2 1) (e : Int) 0 (F e) (F (e + 1))) (P0 : ∀ E : td_D, fm_o Dm E → p_th (Dc 2 0) (Dc 2 1) (F 0) (cp_o E 4 21 0 30 21)) (FC : fr_c Dw Df) : ∀ (m : Nat) (n z s t : Int) (E : td_D), 0 ≤ n → n ≤ 30 → 30 - n < m → tv_in s → tv_in t → fm_o Dm E → lk_s (F_X11_drawn_73 m wh mo (da : Int) z s t n Df) (F_X12_drawn_53 m nm wh z s t n E) Dw Dm := by
  intro m
  induction m with
  | zero => intro n z s t E q1 q2 q3; omega
  | succ m ih =>
    intro n z s t E q1 q2 q3 hs ht fE
    unfold F_X11_drawn_73 F_X12_drawn_53
    rw [tv_dv n0 n2 (by omega), ← m1]
    by_cases c : mo ≤ n
    · rw [if_pos c, if_pos c]
      split <;> exact lk_1 rfl FC (fm_of fE)
    · rw [if_neg c, if_neg c, fm_layNow, td_bs]
      refine lk_days hR n1 n0 d2 D2 D4 G ST _ _ (n := n) (fun z s t E hs ht fE => ?_) tf_N 0 z s t _ (by omega) (by unfold tf_N; omega) hs ht (fun r r1 r2 r3 r4 => (cp_row r3).trans (fE r r1 r2 r3 r4)) (P0 E fE)
      rw [tw_s (a := n + 1) (by omega) (by omega)]
      exact ih (n + 1) z s t E (by omega) (by omega) (by omega) hs ht fE
