theorem fe_isU_s {n : Nat} {b a i : Int} {D : td_D} (h1 : 0 ≤ a) (h2 : a < 8) (h3 : 0 ≤ i) (h4 : i < 8) : F_X11_isUnder_4 (n + 1) b a i D = if a = b then some (1, D) else F_X11_isUnder_4 n b (tv_kab a.toNat) (i + 1) D := by
  have e : F_X11_isUnder_4 (n + 1) b a i D = (if 8 ≤ i then some (0, D) else td_b (F_X11_isKind a D) fun r1 D2 => if r1 = 0 then some (0, D2) else if a = b then some (1, D2) else if 0 ≤ a ∧ a < ((8 : Nat) : Int) then F_X11_isUnder_4 n b (tv_kab (Int.toNat a)) (tv_w (i + 1)) D2 else none) := rfl
  rw [e, fe_isKind, td_bs]
  simp (disch := omega) only [tf_0, if_pos, if_neg, tw_s]
theorem fe_isU_e {n : Nat} {b a i : Int} {D : td_D} (h1 : a < 0) (h3 : 0 ≤ i) (h4 : i < 8) : F_X11_isUnder_4 (n + 1) b a i D = some (0, D) := by
  have e : F_X11_isUnder_4 (n + 1) b a i D = (if 8 ≤ i then some (0, D) else td_b (F_X11_isKind a D) fun r1 D2 => if r1 = 0 then some (0, D2) else if a = b then some (1, D2) else if 0 ≤ a ∧ a < ((8 : Nat) : Int) then F_X11_isUnder_4 n b (tv_kab (Int.toNat a)) (tv_w (i + 1)) D2 else none) := rfl
  rw [e, fe_isKind, td_bs]
  simp (disch := omega) only [tf_0, if_pos, if_neg, tw_s]
/-- under a kind -/
def iu_o (a b : Int) : Int := if b = 0 ∨ a = b ∨ (b = 1 ∧ a = 4) ∨ (b = 2 ∧ (a = 3 ∨ a = 5)) ∨ (b = 3 ∧ a = 5) ∨ (b = 6 ∧ a = 7) then 1 else 0
theorem fe_isU {a b : Int} {D : td_D} (h1 : 0 ≤ a) (h2 : a ≤ 7) : F_X11_isUnder a b D = some (iu_o a b, D) := by
  have e : F_X11_isUnder a b D = F_X11_isUnder_4 (4995 + 1 + 1 + 1 + 1 + 1) b a 0 D := rfl
  rw [e]
  clear e
  have q : a = 0 ∨ a = 1 ∨ a = 2 ∨ a = 3 ∨ a = 4 ∨ a = 5 ∨ a = 6 ∨ a = 7 := by omega
  have k0 : tv_kab (Int.toNat 0) = -1 := rfl
  have k1 : tv_kab (Int.toNat 1) = 0 := rfl
  have k2 : tv_kab (Int.toNat 2) = 0 := rfl
  have k3 : tv_kab (Int.toNat 3) = 2 := rfl
  have k4 : tv_kab (Int.toNat 4) = 1 := rfl
  have k5 : tv_kab (Int.toNat 5) = 3 := rfl
  have k6 : tv_kab (Int.toNat 6) = 0 := rfl
  have k7 : tv_kab (Int.toNat 7) = 6 := rfl
  rcases q with rfl | rfl | rfl | rfl | rfl | rfl | rfl | rfl
  · rw [fe_isU_s (by omega) (by omega) (by omega) (by omega), k0, fe_isU_e (by omega) (by omega) (by omega)]
    unfold iu_o
    (repeat' split) <;> first | rfl | omega
  · rw [fe_isU_s (by omega) (by omega) (by omega) (by omega), k1, fe_isU_s (by omega) (by omega) (by omega) (by omega), k0, fe_isU_e (by omega) (by omega) (by omega)]
    unfold iu_o
    (repeat' split) <;> first | rfl | omega
  · rw [fe_isU_s (by omega) (by omega) (by omega) (by omega), k2, fe_isU_s (by omega) (by omega) (by omega) (by omega), k0, fe_isU_e (by omega) (by omega) (by omega)]
    unfold iu_o
    (repeat' split) <;> first | rfl | omega
  · rw [fe_isU_s (by omega) (by omega) (by omega) (by omega), k3, fe_isU_s (by omega) (by omega) (by omega) (by omega), k2, fe_isU_s (by omega) (by omega) (by omega) (by omega), k0, fe_isU_e (by omega) (by omega) (by omega)]
    unfold iu_o
    (repeat' split) <;> first | rfl | omega
  · rw [fe_isU_s (by omega) (by omega) (by omega) (by omega), k4, fe_isU_s (by omega) (by omega) (by omega) (by omega), k1, fe_isU_s (by omega) (by omega) (by omega) (by omega), k0, fe_isU_e (by omega) (by omega) (by omega)]
    unfold iu_o
    (repeat' split) <;> first | rfl | omega
  · rw [fe_isU_s (by omega) (by omega) (by omega) (by omega), k5, fe_isU_s (by omega) (by omega) (by omega) (by omega), k3, fe_isU_s (by omega) (by omega) (by omega) (by omega), k2, fe_isU_s (by omega) (by omega) (by omega) (by omega), k0, fe_isU_e (by omega) (by omega) (by omega)]
    unfold iu_o
    (repeat' split) <;> first | rfl | omega
  · rw [fe_isU_s (by omega) (by omega) (by omega) (by omega), k6, fe_isU_s (by omega) (by omega) (by omega) (by omega), k0, fe_isU_e (by omega) (by omega) (by omega)]
    unfold iu_o
    (repeat' split) <;> first | rfl | omega
  · rw [fe_isU_s (by omega) (by omega) (by omega) (by omega), k7, fe_isU_s (by omega) (by omega) (by omega) (by omega), k6, fe_isU_s (by omega) (by omega) (by omega) (by omega), k0, fe_isU_e (by omega) (by omega) (by omega)]
    unfold iu_o
    (repeat' split) <;> first | rfl | omega
theorem fm_isU {a b : Int} {D : td_D} : F_X12_isUnder a b D = some (iu_o a b, D) := by
  unfold F_X12_isUnder F_X12_isUnder_34 F_X12_isUnder_56 iu_o
  (repeat' split) <;> first | rfl | omega
/-- taken -/
theorem st_43 : ls_43 lw_R := by
  intro a1 a2 Dc Dm _ _ _ hR
  obtain ⟨hl, hs, ht, hw, hc, hg, hi, ⟨⟨b1, b1a, b1b⟩, b2, -⟩, -⟩ := id hR
  unfold F_X11_taken F_X12_taken F_X11_refusal
  simp only [fe_isShelf, fm_isShelf, fe_isKind, fm_in, td_bs, tf_0, fm_isU]
  by_cases c : 0 ≤ a1 ∧ a1 ≤ 5
  · by_cases d : 0 ≤ a2 ∧ a2 ≤ 7
    · simp (disch := omega) only [if_pos, if_neg, tr_46]
      rcases sh_k (sh_all hR a1.toNat (by omega)) with ⟨k1, k2⟩ | ⟨k1, k2, k3, k4⟩ | ⟨k1, k2, k3, k4, k5, k6, k7⟩
      · simp (disch := omega) only [if_pos, if_neg, td_bs]
        exact lw_rt rfl hR
      · have bb := b2 (Dm 37 a1.toNat).toNat (by omega)
        simp (disch := omega) only [if_pos, if_neg, td_bs, fe_isBody, tf_0, k4, fe_isU, bb.1]
        by_cases z : iu_o (Dc 44 (Dm 37 a1.toNat).toNat) a2 = 0
        · simp only [if_pos z]
          exact lw_rt rfl hR
        · simp only [if_neg z]
          exact lw_rt rfl hR
      · simp (disch := omega) only [if_pos, if_neg, td_bs]
        exact lw_rt rfl hR
    · simp (disch := omega) only [if_pos, if_neg]
      exact lw_rt rfl hR
  · simp only [if_pos c]
    exact lw_rt rfl hR
