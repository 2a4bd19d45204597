theorem el_lb {k v : Int} : tv_inl v → p_el k (if k = 0 then tv_i2b (tv_w v) else if k = 1 then tv_i2s (tv_w v) else if k = 2 then tv_w v else if k = 3 then v else if k = 4 then (if tv_lcmp v 0 = 0 then 0 else 1) else v) := by
  intro _
  unfold p_el tv_i2b tv_i2s
  constructor
  · intro h
    rw [if_pos h]
    omega
  · intro h
    rw [if_neg (by omega), if_pos h]
    omega
theorem fe_lb {k v : Int} {D : td_D} : F_X11_lowestBits k v D = some (if k = 0 then tv_i2b (tv_w v) else if k = 1 then tv_i2s (tv_w v) else if k = 2 then tv_w v else if k = 3 then v else if k = 4 then (if tv_lcmp v 0 = 0 then 0 else 1) else v, D) := by
  unfold F_X11_lowestBits
  (repeat' split) <;> first | rfl | omega
/-- put -/
theorem st_40 : ls_40 lw_R := by
  intro a1 a2 a3 Dc Dm _ _ h3 _ hR
  unfold F_X11_put F_X12_put F_X12_whyNoPlace F_X11_rowRefusal F_X6_has
  simp only [fe_isShelf, fm_isShelf, fm_in, td_bs, tf_0]
  by_cases c : 0 ≤ a1 ∧ a1 ≤ 5
  · rcases sh_k (sh_all hR a1.toNat (by omega)) with ⟨k1, k2⟩ | ⟨k1, k2, k3, k4⟩ | ⟨k1, k2, k3, k4, k5, k6, k7⟩
    · simp (disch := omega) only [if_pos, if_neg, td_bs, tr_46]
      exact lw_rt rfl hR
    · simp (disch := omega) only [if_pos, if_neg, td_bs, tr_46]
      exact lw_rt rfl hR
    · simp (disch := omega) only [if_pos, if_neg, td_bs, tr_46, tr_sh, tw_s, fe_lb]
      by_cases c2 : 0 ≤ a2 ∧ a2 < Dc (47 + 2 * a1.toNat) 2
      · have go : ∀ x y : Int, y = x → p_el (Dc (47 + 2 * a1.toNat) 0) x → lw_eq lw_R (td_l (td_upd Dc (48 + 2 * a1.toNat) a2.toNat x) fun D11 => some (1, D11)) (td_l (td_upd Dm 39 (60 * a1 + a2).toNat y) fun D2 => some (1, D2)) := by
          intro x y hx he
          subst hx
          refine lw_rt rfl (sh_U (s0 := a1.toNat) (by omega) hR (fun r x1 x2 => tu_row x2) (fun r x1 x2 x3 x4 => tu_row x3) (fun s hs => by rw [tu_row (by decide)]) (fun s hs => by rw [tu_row (by decide)]) (fun j hj => by rw [tu_at, tu_ne (by omega)]) ?_)
          unfold p_shelf
          right; right
          simp (disch := omega) only [tu_at, tu_row]
          refine ⟨by omega, by omega, by omega, k4, k5, k6, fun i hi => ?_⟩
          unfold tv_up
          by_cases q : i = a2.toNat
          · simp (disch := omega) only [if_pos]
            exact ⟨trivial, he⟩
          · simp (disch := omega) only [if_neg]
            exact k7 i hi
        have el := el_lb (k := Dc (47 + 2 * a1.toNat) 0) h3
        unfold F_X12_put_95
        have kk : Dc (47 + 2 * a1.toNat) 0 = 0 ∨ Dc (47 + 2 * a1.toNat) 0 = 1 ∨ Dc (47 + 2 * a1.toNat) 0 = 2 ∨ Dc (47 + 2 * a1.toNat) 0 = 3 ∨ Dc (47 + 2 * a1.toNat) 0 = 4 := by omega
        rcases kk with kk | kk | kk | kk | kk
        · simp (disch := omega) only [if_true, if_pos, if_neg, td_bs, tw_s, tr_sh] at el ⊢
          exact go _ _ rfl el
        · simp (disch := omega) only [if_true, if_pos, if_neg, td_bs, tw_s, tr_sh] at el ⊢
          exact go _ _ rfl el
        · simp (disch := omega) only [if_true, if_pos, if_neg, td_bs, tw_s, tr_sh] at el ⊢
          exact go _ _ rfl el
        · simp (disch := omega) only [if_true, if_pos, if_neg, td_bs, tw_s, tr_sh] at el ⊢
          exact go _ _ rfl el
        · simp (disch := omega) only [if_true, if_pos, if_neg, td_bs, tw_s, tr_sh] at el ⊢
          by_cases z : tv_lcmp a3 0 = 0
          · simp only [if_pos z] at el ⊢
            exact go _ _ rfl el
          · simp only [if_neg z] at el ⊢
            exact go _ _ rfl el
      · by_cases c4 : a2 < 0
        · simp (disch := omega) only [if_true, if_pos, if_neg, td_bs]
          exact lw_rt rfl hR
        · simp (disch := omega) only [if_true, if_pos, if_neg, td_bs]
          exact lw_rt rfl hR
  · simp (disch := omega) only [if_pos c, td_bs, if_neg]
    exact lw_rt rfl hR
/-- element -/
theorem st_41 : ls_41 lw_R := by
  intro a1 a2 Dc Dm _ _ _ hR
  unfold F_X11_element F_X12_element F_X12_whyNoPlace F_X11_rowRefusal F_X6_has
  simp only [fe_isShelf, fm_isShelf, fm_in, td_bs, tf_0]
  by_cases c : 0 ≤ a1 ∧ a1 ≤ 5
  · rcases sh_k (sh_all hR a1.toNat (by omega)) with ⟨k1, k2⟩ | ⟨k1, k2, k3, k4⟩ | ⟨k1, k2, k3, k4, k5, k6, k7⟩
    · simp (disch := omega) only [if_pos, if_neg, td_bs, tr_46]
      exact lw_rt rfl hR
    · simp (disch := omega) only [if_pos, if_neg, td_bs, tr_46]
      exact lw_rt rfl hR
    · simp (disch := omega) only [if_pos, if_neg, td_bs, tr_46, tr_sh, tw_s]
      by_cases c2 : 0 ≤ a2 ∧ a2 < Dc (47 + 2 * a1.toNat) 2
      · simp (disch := omega) only [if_pos, if_neg, td_bs, tw_s, tr_sh]
        have b := (k7 a2.toNat (by omega)).1
        rw [show 60 * a1.toNat + a2.toNat = (60 * a1 + a2).toNat by omega] at b
        exact lw_rt b.symm hR
      · by_cases c4 : a2 < 0
        · simp (disch := omega) only [if_true, if_pos, if_neg, td_bs]
          exact lw_rt rfl hR
        · simp (disch := omega) only [if_true, if_pos, if_neg, td_bs]
          exact lw_rt rfl hR
  · simp (disch := omega) only [if_pos c, td_bs, if_neg]
    exact lw_rt rfl hR
