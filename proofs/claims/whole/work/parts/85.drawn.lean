theorem bc_g (a : Int) (D : td_D) : F_J6_bitCount_0f7a4 a D = some (((F_J6_bitCount_0f7a4 a (fun _ _ => 0)).getD (0, fun _ _ => 0)).1, D) := rfl
theorem bc_32 : ∀ v : Fin 32, ((F_J6_bitCount_0f7a4 ((v : Nat) : Int) (fun _ _ => 0)).getD (0, fun _ _ => 0)).1 = ((pc_o (v : Nat) : Nat) : Int) := by decide +kernel
theorem fe_bc {v : Nat} {D : td_D} (h : v < 32) : F_J6_bitCount_0f7a4 (v : Int) D = some (((pc_o v : Nat) : Int), D) := by
  rw [bc_g]
  have z := bc_32 ⟨v, h⟩
  rw [z]
theorem bl_32 : ∀ v : Fin 32, (v : Nat) ≠ 0 → ∃ w : Fin 32, tv_and ((v : Nat) : Int) (tv_w (((v : Nat) : Int) - 1)) = ((w : Nat) : Int) ∧ pc_o (w : Nat) + 1 = pc_o (v : Nat) := by decide +kernel
theorem pc_0 : ∀ v : Fin 32, pc_o (v : Nat) = 0 ↔ (v : Nat) = 0 := by decide +kernel
theorem pc_5 : ∀ v : Fin 32, pc_o (v : Nat) ≤ 5 := by decide +kernel
theorem us_b (a : Int) : (0 ≤ tv_ushr a 6 ∧ tv_ushr a 6 ≤ 67108863) ∧ (0 ≤ tv_ushr a 12 ∧ tv_ushr a 12 ≤ 67108863) := by
  have key : ∀ (u : UInt32) (n : UInt32), (n = 6 ∨ n = 12) → 0 ≤ (u >>> n).toInt32.toInt ∧ (u >>> n).toInt32.toInt ≤ 67108863 := by
    intro u n hn
    have h1 : (u >>> n).toNat ≤ 67108863 := by
      rcases hn with rfl | rfl
      · rw [UInt32.toNat_shiftRight]
        have := u.toNat_lt
        rw [show (6 : UInt32).toNat % 32 = 6 from rfl, Nat.shiftRight_eq_div_pow]
        omega
      · rw [UInt32.toNat_shiftRight]
        have := u.toNat_lt
        rw [show (12 : UInt32).toNat % 32 = 12 from rfl, Nat.shiftRight_eq_div_pow]
        omega
    have h2 : (u >>> n).toInt32.toInt = ((u >>> n).toNat : Int) := by
      show ((u >>> n).toBitVec).toInt = _
      rw [BitVec.toInt_eq_toNat_cond]
      have e : (u >>> n).toBitVec.toNat = (u >>> n).toNat := rfl
      rw [e]
      split <;> omega
    rw [h2]
    omega
  exact ⟨key _ _ (Or.inl rfl), key _ _ (Or.inr rfl)⟩
theorem fm_128 (k53 : Int → Int → Int → Int → Int → Int → td_D → Option (Int × td_D)) (k69 : Int → Int → Int → Int → Int → Int → Int → td_D → Option (Int × td_D)) {v2 v3 v4 v6 v7 v8 : Int} {D : td_D} : ∀ (m b : Nat) (s : Int), b < 32 → pc_o b < m → tv_in s → F_X12_drawn_128 k53 k69 m v2 v3 v4 s v6 v7 v8 (b : Int) D = F_X12_drawn_151 k53 k69 tf_N v2 v3 v4 (tv_w (s + ((pc_o b : Nat) : Int))) v6 v7 v8 0 D := by
  intro m
  induction m with
  | zero => intro b s h1 h2; omega
  | succ m ih =>
    intro b s h1 h2 hs
    unfold F_X12_drawn_128
    by_cases c : b = 0
    · subst c
      rw [if_pos (by rfl), show pc_o 0 = 0 from by decide, show s + ((0 : Nat) : Int) = s by omega, tv_w_id hs]
    · obtain ⟨w, w1, w2⟩ := bl_32 ⟨b, h1⟩ c
      have w1' : tv_and (b : Int) (tv_w ((b : Int) - 1)) = ((w : Nat) : Int) := w1
      have w2' : pc_o (w : Nat) + 1 = pc_o b := w2
      rw [if_neg (by omega), w1', ih w (tv_w (s + 1)) w.2 (by omega) (tv_w_in _), ← w2']
      congr 1
      unfold tv_w
      omega
theorem lk_days {wh mo da nm : Int} {Dc Dm : td_D} (hR : lw_R Dc Dm) (n1 : da = nm % 100) (n0 : 0 ≤ nm) (d2 : da ≤ 30) (kc : Int → Int → Int → Int → Int → Int → Int → td_D → Option (Int × td_D)) (km : Int → Int → Int → Int → Int → Int → td_D → Option (Int × td_D)) {n : Int} (K : ∀ (z s t : Int) (D E : td_D), tv_in s → tv_in t → dy_o Dc Dm D E → D 6 = Dc 6 → lk_s (kc wh mo da z s t (tv_w (n + 1)) D) (km nm wh z s t (tv_w (n + 1)) E) Dc Dm) : ∀ (m : Nat) (d z s t : Int) (D E : td_D), 0 ≤ d → d ≤ 30 → 30 - d < m → tv_in s → tv_in t → dy_o Dc Dm D E → D 6 = Dc 6 → p_th (Dc 2 0) (Dc 2 1) (D 22) (E 21) → lk_s (F_X11_drawn_91 kc m wh mo da z s t n d D) (F_X12_drawn_69 km m nm wh z s t n d E) Dc Dm := by
  obtain ⟨⟨⟨l1, l1a, l1b⟩, ⟨l2, l2a, l2b⟩, ⟨l3, l3a, l3b⟩, lon, lce, -⟩, ⟨-, ⟨s2, s2a, s2b⟩, -⟩, -⟩ := id hR
  intro m
  induction m with
  | zero => intro d z s t D E q1 q2 q3; omega
  | succ m ih =>
    intro d z s t D E q1 q2 q3 hs ht dy h6 th
    unfold F_X11_drawn_91 F_X12_drawn_69
    rw [tv_rme n0, ← n1]
    by_cases c : da ≤ d
    · rw [if_pos c, if_pos c]
      exact K z s t D E hs ht dy h6
    · have dD2 : D 2 = Dc 2 := dy.1 2 (by decide) (by decide) (by decide) (by decide) (by decide)
      have dD4 : D 4 = Dc 4 := dy.1 4 (by decide) (by decide) (by decide) (by decide) (by decide)
      have eE1 : E 1 = Dm 1 := dy.2 1 (by decide) (by decide) (by decide) (by decide)
      have eE3 : E 3 = Dm 3 := dy.2 3 (by decide) (by decide) (by decide) (by decide)
      have eE8 : E 8 = Dm 8 := dy.2 8 (by decide) (by decide) (by decide) (by decide)
      rw [if_neg c, if_neg c]
      generalize tv_w (tv_w (z * 1103515245) + 12345) = z'
      have ub := us_b z'
      rw [tv_rme ub.1.1, tv_rme ub.2.1, tw_s (a := 10 * (tv_ushr z' 12 % 10)) (by omega) (by omega), tw_s (a := tv_ushr z' 6 % 10 + 10 * (tv_ushr z' 12 % 10)) (by omega) (by omega), tw_s (a := 10 * (tv_ushr z' 12 % 10) + tv_ushr z' 6 % 10) (by omega) (by omega), show 10 * (tv_ushr z' 12 % 10) + tv_ushr z' 6 % 10 = tv_ushr z' 6 % 10 + 10 * (tv_ushr z' 12 % 10) by omega]
      obtain ⟨cl, hcl⟩ : ∃ cl : Int, cl = tv_ushr z' 6 % 10 + 10 * (tv_ushr z' 12 % 10) := ⟨_, rfl⟩
      have cl1 : 0 ≤ cl ∧ cl ≤ 99 := by omega
      rw [← hcl]
      have S1 := fe_sting (q := 21) (r := 22) (xy := cl) (D := D) tr_21 (fun i hi => (th.1 i hi).2) (by rw [dD4]; exact fun i hi => (lce i hi).2) (by rw [dD2]; exact l2a) (by rw [dD2]; exact l2b) (by rw [dD2]; exact s2a) cl1.1 cl1.2
      have S2 := fm_sting (xy := cl) (pe := Dc 2 0) (hi := Dc 2 1) (re := Dc 2 10) (f := D 22) (ce := Dc 4) (D := E) th (by rw [eE1]; exact l1) l1a l1b (by rw [eE1]; exact l2) (by rw [eE3]; exact lce) l2a l2b (by rw [eE8]; exact s2) s2a cl1.1 cl1.2
      rw [dD2, dD4] at S1
      rw [S1, S2, td_bs, td_bs]
      have b32 : bi_o (D 22) (Dc 4) (Dc 2 10) cl (Dc 2 1).toNat < 32 := by
        have b := @bi_b (D 22) (Dc 4) (Dc 2 10) cl (Dc 2 1).toNat
        have b2 : 2 ^ (Dc 2 1).toNat ≤ 2 ^ 5 := Nat.pow_le_pow_right (by omega) (by omega)
        omega
      generalize bi_o (D 22) (Dc 4) (Dc 2 10) cl (Dc 2 1).toNat = b at *
      have p0 := pc_0 ⟨b, b32⟩
      have p5 := pc_5 ⟨b, b32⟩
      simp only at p0 p5
      obtain ⟨D', E', a1, -, a3, a4, a5, a6, a7⟩ := lk_every (q := 21) (r := 22) (d := d) tr_21 (Or.inr rfl) hR tf_N 0 D E (by omega) l2a (by unfold tf_N; omega) dy th
      have a1' : F_X11_passDayEverywhere 21 d D = some (0, D') := by
        unfold F_X11_passDayEverywhere
        exact a1
      have h6' : D' 6 = Dc 6 := (a6 6 (by decide) (by decide) (by decide) (by decide)).trans h6
      rw [fe_bc b32, td_bs, a1', td_bs, td_bs, tw_s (a := d + 1) (by omega) (by omega)]
      by_cases c0 : b = 0
      · have pz : pc_o b = 0 := p0.mpr c0
        rw [if_pos (show ((pc_o b : Nat) : Int) ≤ 0 by omega), if_pos (show ((b : Nat) : Int) = 0 by omega), fm_128 _ _ tf_N b s b32 (by unfold tf_N; omega) hs, a3, tw_s (a := d + 1) (by omega) (by omega), Int.add_zero, tv_w_id ht]
        exact ih (d + 1) z' _ t D' E' (by omega) (by omega) (by omega) (tv_w_in _) ht a4 h6' a5
      · have pz : pc_o b ≠ 0 := fun w => c0 (p0.mp w)
        rw [if_neg (show ¬ ((pc_o b : Nat) : Int) ≤ 0 by omega), if_neg (show ¬ ((b : Nat) : Int) = 0 by omega), fm_128 _ _ tf_N b s b32 (by unfold tf_N; omega) hs, a3, tw_s (a := d + 1) (by omega) (by omega)]
        exact ih (d + 1) z' _ _ D' E' (by omega) (by omega) (by omega) (tv_w_in _) (tv_w_in _) a4 h6' a5
theorem lk_months {wh mo da nm : Int} {Dc Dm : td_D} (hR : lw_R Dc Dm) (n1 : da = nm % 100) (m1 : mo = nm / 100) (n0 : 0 ≤ nm) (n2 : nm ≤ 2147483647) (d2 : da ≤ 30) (m2 : mo ≤ 30) : ∀ (m : Nat) (n z s t : Int) (D E : td_D), 0 ≤ n → n ≤ 30 → 30 - n < m → tv_in s → tv_in t → dy_o Dc Dm D E → D 6 = Dc 6 → lk_s (F_X11_drawn_67 m wh mo da z s t n D) (F_X12_drawn_53 m nm wh z s t n E) Dc Dm := by
  intro m
  induction m with
  | zero => intro n z s t D E q1 q2 q3; omega
  | succ m ih =>
    intro n z s t D E q1 q2 q3 hs ht dy h6
    unfold F_X11_drawn_67 F_X12_drawn_53
    rw [tv_dv n0 n2 (by omega), ← m1]
    by_cases c : mo ≤ n
    · rw [if_pos c, if_pos c]
      split <;> exact lk_1 rfl (dy_fc dy h6) (dy_fm dy)
    · obtain ⟨w1, w2, w3⟩ := dy_now hR dy h6
      rw [if_neg c, if_neg c, fe_now, fm_layNow, td_bs, td_bs]
      refine lk_days hR n1 n0 d2 _ _ (n := n) (fun z s t D E hs ht dy h6 => ?_) tf_N 0 z s t _ _ (by omega) (by omega) (by unfold tf_N; omega) hs ht w1 w2 w3
      rw [tw_s (a := n + 1) (by omega) (by omega)]
      exact ih (n + 1) z s t D E (by omega) (by omega) (by omega) hs ht dy h6
theorem st_24 : ls_24 lw_R := by
  intro a1 a2 a3 Dc Dm _ i2 _ _ hR
  refine lk_R ?_ hR
  unfold F_X11_drawn F_X12_drawn
  have j2 := i2.2
  by_cases c0 : a2 < 0
  · rw [if_pos c0, if_pos c0]
    exact lk_0 rfl
  · rw [if_neg c0, if_neg c0, tv_dv (by omega) j2 (by omega), tv_rme (by omega)]
    simp only [fm_in, tb_s, tf_0]
    by_cases c1 : 1 ≤ a2 / 100 ∧ a2 / 100 ≤ 30
    · have nn1 : ¬ ¬ (1 ≤ a2 / 100 ∧ a2 / 100 ≤ 30) := fun q => q c1
      simp only [if_neg nn1, if_neg (show ¬ a2 / 100 < 1 by omega), if_neg (show ¬ 30 < a2 / 100 by omega)]
      by_cases c2 : 1 ≤ a2 % 100 ∧ a2 % 100 ≤ 30
      · have nn2 : ¬ ¬ (1 ≤ a2 % 100 ∧ a2 % 100 ≤ 30) := fun q => q c2
        simp only [if_neg nn2, if_neg (show ¬ a2 % 100 < 1 by omega), if_pos c2.2]
        by_cases c3 : 0 ≤ a3 ∧ a3 ≤ 1
        · have nn3 : ¬ ¬ (0 ≤ a3 ∧ a3 ≤ 1) := fun q => q c3
          simp only [if_neg nn3, if_neg (show ¬ a3 < 0 by omega), if_pos c3.2]
          exact lk_months hR rfl rfl (by omega) j2 c2.2 c1.2 tf_N 0 a1 0 0 Dc Dm (by omega) (by omega) (by unfold tf_N; omega) tv_in0 tv_in0 ⟨fun _ _ _ _ _ _ => rfl, fun _ _ _ _ _ => rfl⟩ rfl
        · simp only [if_pos c3]
          by_cases c4 : a3 < 0
          · simp only [if_pos c4]
            exact lk_0 rfl
          · simp only [if_neg c4, if_neg (show ¬ a3 ≤ 1 by omega)]
            exact lk_0 rfl
      · simp only [if_pos c2]
        by_cases c4 : a2 % 100 < 1
        · simp only [if_pos c4]
          exact lk_0 rfl
        · simp only [if_neg c4, if_neg (show ¬ a2 % 100 ≤ 30 by omega)]
          exact lk_0 rfl
    · simp only [if_pos c1]
      by_cases c4 : a2 / 100 < 1
      · simp only [if_pos c4]
        exact lk_0 rfl
      · simp only [if_neg c4, if_pos (show 30 < a2 / 100 by omega)]
        exact lk_0 rfl
