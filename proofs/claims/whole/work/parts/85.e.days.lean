theorem lk_days {wh mo nm : Int} {da : Nat} {Dc Dm Df Dw : td_D} {F : Nat → Nat → Int} (hR : lw_R Dc Dm) (n1 : (da : Int) = nm % 100) (n0 : 0 ≤ nm) (d2 : da ≤ 30) (D2 : Df 2 = Dc 2) (D4 : Df 4 = Dc 4) (G : ∀ e h : Nat, e < da → (h : Int) < Dc 2 1 → Df 59 (5 * e + h) = fo_o (al_o (F e) (h : Int)) (Dc 2 10)) (ST : ∀ e : Nat, e < da → gd_o tf_N Dm (Dc 2 0) (Dc 2 1) (e : Int) 0 (F e) (F (e + 1))) (kc : Int → Int → Int → Int → Int → Int → Int → td_D → Option (Int × td_D)) (km : Int → Int → Int → Int → Int → Int → td_D → Option (Int × td_D)) {n : Int} (K : ∀ (z s t : Int) (E : td_D), tv_in s → tv_in t → fm_o Dm E → lk_s (kc wh mo (da : Int) z s t (tv_w (n + 1)) Df) (km nm wh z s t (tv_w (n + 1)) E) Dw Dm) : ∀ (m d : Nat) (z s t : Int) (E : td_D), d ≤ 30 → 30 - d < m → tv_in s → tv_in t → fm_o Dm E → p_th (Dc 2 0) (Dc 2 1) (F d) (E 21) → lk_s (F_X11_drawn_83 kc m wh mo (da : Int) z s t n (d : Int) Df) (F_X12_drawn_69 km m nm wh z s t n (d : Int) E) Dw Dm := by
  obtain ⟨⟨⟨l1, l1a, l1b⟩, ⟨l2, l2a, l2b⟩, ⟨l3, l3a, l3b⟩, lon, lce, -⟩, ⟨-, ⟨s2, s2a, s2b⟩, -⟩, -⟩ := id hR
  intro m
  induction m with
  | zero => intro d z s t E q1 q2; omega
  | succ m ih =>
    intro d z s t E q1 q2 hs ht fE th
    unfold F_X11_drawn_83 F_X12_drawn_69
    rw [tv_rme n0, ← n1]
    by_cases c : (da : Int) ≤ (d : Int)
    · rw [if_pos c, if_pos c]
      exact K z s t E hs ht fE
    · have eE1 : E 1 = Dm 1 := fE 1 (by decide) (by decide) (by decide) (by decide)
      have eE3 : E 3 = Dm 3 := fE 3 (by decide) (by decide) (by decide) (by decide)
      have eE8 : E 8 = Dm 8 := fE 8 (by decide) (by decide) (by decide) (by decide)
      rw [if_neg c, if_neg c]
      generalize tv_w (tv_w (z * 1103515245) + 12345) = z'
      have ub := us_b z'
      rw [tv_rme ub.1.1, tv_rme ub.2.1, tw_s (a := 10 * (tv_ushr z' 12 % 10)) (by omega) (by omega), tw_s (a := tv_ushr z' 6 % 10 + 10 * (tv_ushr z' 12 % 10)) (by omega) (by omega), tw_s (a := 10 * (tv_ushr z' 12 % 10) + tv_ushr z' 6 % 10) (by omega) (by omega), show 10 * (tv_ushr z' 12 % 10) + tv_ushr z' 6 % 10 = tv_ushr z' 6 % 10 + 10 * (tv_ushr z' 12 % 10) by omega]
      obtain ⟨cl, hcl⟩ : ∃ cl : Int, cl = tv_ushr z' 6 % 10 + 10 * (tv_ushr z' 12 % 10) := ⟨_, rfl⟩
      have cl1 : 0 ≤ cl ∧ cl ≤ 99 := by omega
      rw [← hcl]
      have S1 : F_X11_stingsOn (d : Int) cl Df = some (((bn_o (F d) (Dc 4) (Dc 2 10) cl (Dc 2 1).toNat : Nat) : Int), Df) := by
        unfold F_X11_stingsOn
        exact fe_on (d := d) (hi := Dc 2 1) (by omega) (by rw [D2]) l2a l2b (by rw [D4]; exact fun i hi => ⟨rfl, (lce i hi).2⟩) (fun h hh => G d h (by omega) hh) cl1.1 cl1.2 tf_N 0 (by omega) (by unfold tf_N; omega)
      have S2 := fm_sting (xy := cl) (pe := Dc 2 0) (hi := Dc 2 1) (re := Dc 2 10) (f := F d) (ce := Dc 4) (D := E) th (by rw [eE1]; exact l1) l1a l1b (by rw [eE1]; exact l2) (by rw [eE3]; exact lce) l2a l2b (by rw [eE8]; exact s2) s2a cl1.1 cl1.2
      rw [← bi_pc _ (show (Dc 2 1).toNat ≤ 5 by omega)] at S1
      rw [S1, S2, td_bs, td_bs]
      have b32 : bi_o (F d) (Dc 4) (Dc 2 10) cl (Dc 2 1).toNat < 32 := by
        have b := @bi_b (F d) (Dc 4) (Dc 2 10) cl (Dc 2 1).toNat
        have b2 : 2 ^ (Dc 2 1).toNat ≤ 2 ^ 5 := Nat.pow_le_pow_right (by omega) (by omega)
        omega
      clear S1 S2
      generalize bi_o (F d) (Dc 4) (Dc 2 10) cl (Dc 2 1).toNat = b at *
      have p0 := pc_0 ⟨b, b32⟩
      have p5 := pc_5 ⟨b, b32⟩
      simp only at p0 p5
      obtain ⟨E', a3, a4, a5⟩ := ST d (by omega) E fE th
      have ev : ((d + 1 : Nat) : Int) = (d : Int) + 1 := by omega
      rw [tw_s (a := (d : Int) + 1) (by omega) (by omega)]
      by_cases c0 : b = 0
      · have pz : pc_o b = 0 := p0.mpr c0
        rw [if_pos (show ((pc_o b : Nat) : Int) ≤ 0 by omega), if_pos (show ((b : Nat) : Int) = 0 by omega), fm_128 _ _ tf_N b s b32 (by unfold tf_N; omega) hs, a3, Int.add_zero, tv_w_id ht]
        have i := ih (d + 1) z' (tv_w (s + ((pc_o b : Nat) : Int))) t E' (by omega) (by omega) (tv_w_in _) ht a4 a5
        rw [ev] at i
        exact i
      · have pz : pc_o b ≠ 0 := fun w => c0 (p0.mp w)
        rw [if_neg (show ¬ ((pc_o b : Nat) : Int) ≤ 0 by omega), if_neg (show ¬ ((b : Nat) : Int) = 0 by omega), fm_128 _ _ tf_N b s b32 (by unfold tf_N; omega) hs, a3]
        have i := ih (d + 1) z' (tv_w (s + ((pc_o b : Nat) : Int))) (tv_w (t + 1)) E' (by omega) (by omega) (tv_w_in _) (tv_w_in _) a4 a5
        rw [ev] at i
        exact i
