def B_X8_own (rec : Nat → Int → Int → Int → Int → td_D → Option (Int × td_D)) (a1 : Int) (a2 : Int) (a3 : Int) (D : td_D) : Option (Int × td_D) :=
  if 0 ≤ D 43 4 ∧ D 43 4 < ((50 : Nat) : Int) then
    td_b (rec 2 (D 44 (Int.toNat (D 43 4))) a1 a2 (tv_w (a3 + 1)) D) fun r2 D3 =>
    some (r2, D3)
  else none
set_option maxHeartbeats 4000000 in
set_option maxRecDepth 20000 in
theorem T_X8_own (l : Launch) {E : tv_E} (hE : tv_hE E) (d : Nat) (rec : Nat → Int → Int → Int → Int → td_D → Option (Int × td_D)) (hrec0 : ∀ (a1 : Int) (a2 : Int) (a3 : Int), ∀ D : td_D, td_msim l E (d + 1) mX8_own g_c [tv_R 43, tv_I a1, tv_I a2, tv_I a3] D (rec 0 a1 a2 a3 0 D)) (hrec1 : ∀ (a1 : Int) (a2 : Int) (a3 : Int) (a4 : Int), ∀ D : td_D, td_msim l E (d + 1) mX8_above g_c [tv_R 43, tv_I a1, tv_I a2, tv_I a3, tv_I a4] D (rec 1 a1 a2 a3 a4 D)) (hrec2 : ∀ (a1 : Int) (a2 : Int) (a3 : Int) (a4 : Int), ∀ D : td_D, td_msim l E (d + 1) mX8_run g_c [tv_R 43, tv_I a1, tv_I a2, tv_I a3, tv_I a4] D (rec 2 a1 a2 a3 a4 D)) (hrec3 : ∀ (a1 : Int) (a2 : Int) (a3 : Int), ∀ D : td_D, td_msim l E (d + 1) mX8_answer g_c [tv_R 43, tv_I a1, tv_I a2, tv_I a3] D (rec 3 a1 a2 a3 0 D)) (a1 : Int) (a2 : Int) (a3 : Int) (D : td_D) : td_msim l E (d + 2) mX8_own g_c [tv_R 43, tv_I a1, tv_I a2, tv_I a3] D (B_X8_own rec a1 a2 a3 D) := by
  refine td_meetL (ls := [tv_R 43, tv_I a1, tv_I a2, tv_I a3]) rfl (Nat.le_of_ble_eq_true rfl) rfl ?_
  unfold B_X8_own
  refine ts_aload_n (i := 0) rfl rfl dX8_own_0 ?_
  refine ts_aload_n (i := 0) rfl rfl dX8_own_1 ?_
  refine td_getR (q := 44) tl_X8_9 rfl ga_c_43 rfl dX8_own_2 ?_
  refine ts_aload_n (i := 0) rfl rfl dX8_own_5 ?_
  refine td_getI tl_X8_25 rfl ga_c_43 rfl dX8_own_6 ?_
  refine td_guard (fun h1 => ?_)
  refine td_ialdK ga_c_44 (gn_c_44 _) h1 dX8_own_9 ?_
  refine ts_iload_n (i := 1) rfl rfl dX8_own_10 ?_
  refine ts_iload_n (i := 2) rfl rfl dX8_own_11 ?_
  refine ts_iload_n (i := 3) rfl rfl dX8_own_12 ?_
  refine ts_iconst rfl dX8_own_13 ?_
  refine ts_iadd dX8_own_14 ?_
  refine tq_callV (y2 := mX8_run) [tv_I (D 44 (Int.toNat (D 43 4))), tv_I a1, tv_I a2, tv_I (tv_w (a3 + 1))] [] 43 (st' := fun r2 => [tv_I r2]) tw_X8_run tx_X8_run tw_c8 ga_c_43 tl_X8_32 rfl rfl rfl rfl (fun _ => rfl) dX8_own_15 (hrec2 (D 44 (Int.toNat (D 43 4))) a1 a2 (tv_w (a3 + 1)) D) (fun r2 D3 => ?_)
  exact td_iret rfl dX8_own_18
def B_X8_above (rec : Nat → Int → Int → Int → Int → td_D → Option (Int × td_D)) (a1 : Int) (a2 : Int) (a3 : Int) (a4 : Int) (D : td_D) : Option (Int × td_D) :=
  if 0 ≤ a1 ∧ a1 < ((8 : Nat) : Int) then
    td_b (rec 2 (tv_kab (Int.toNat a1)) a2 a3 (tv_w (a4 + 1)) D) fun r2 D3 =>
    some (r2, D3)
  else none
set_option maxHeartbeats 4000000 in
set_option maxRecDepth 20000 in
theorem T_X8_above (l : Launch) {E : tv_E} (hE : tv_hE E) (d : Nat) (rec : Nat → Int → Int → Int → Int → td_D → Option (Int × td_D)) (hrec0 : ∀ (a1 : Int) (a2 : Int) (a3 : Int), ∀ D : td_D, td_msim l E (d + 1) mX8_own g_c [tv_R 43, tv_I a1, tv_I a2, tv_I a3] D (rec 0 a1 a2 a3 0 D)) (hrec1 : ∀ (a1 : Int) (a2 : Int) (a3 : Int) (a4 : Int), ∀ D : td_D, td_msim l E (d + 1) mX8_above g_c [tv_R 43, tv_I a1, tv_I a2, tv_I a3, tv_I a4] D (rec 1 a1 a2 a3 a4 D)) (hrec2 : ∀ (a1 : Int) (a2 : Int) (a3 : Int) (a4 : Int), ∀ D : td_D, td_msim l E (d + 1) mX8_run g_c [tv_R 43, tv_I a1, tv_I a2, tv_I a3, tv_I a4] D (rec 2 a1 a2 a3 a4 D)) (hrec3 : ∀ (a1 : Int) (a2 : Int) (a3 : Int), ∀ D : td_D, td_msim l E (d + 1) mX8_answer g_c [tv_R 43, tv_I a1, tv_I a2, tv_I a3] D (rec 3 a1 a2 a3 0 D)) (a1 : Int) (a2 : Int) (a3 : Int) (a4 : Int) (D : td_D) : td_msim l E (d + 2) mX8_above g_c [tv_R 43, tv_I a1, tv_I a2, tv_I a3, tv_I a4] D (B_X8_above rec a1 a2 a3 a4 D) := by
  refine td_meetL (ls := [tv_R 43, tv_I a1, tv_I a2, tv_I a3, tv_I a4]) rfl (Nat.le_of_ble_eq_true rfl) rfl ?_
  unfold B_X8_above
  refine ts_aload_n (i := 0) rfl rfl dX8_above_0 ?_
  refine ts_getsN (q := 1) (Or.inr ⟨rfl, rfl⟩) tl_X8_36 dX8_above_1 ?_
  refine ts_iload_n (i := 1) rfl rfl dX8_above_4 ?_
  refine td_sald0 (q := 1) (n := 8) (f := tv_kab) (by decide) hE.2.2 dX8_above_5 tv_kab_in ?_
  refine ts_iload_n (i := 2) rfl rfl dX8_above_6 ?_
  refine ts_iload_n (i := 3) rfl rfl dX8_above_7 ?_
  refine ts_iload rfl dX8_above_8 ?_
  refine ts_iconst rfl dX8_above_10 ?_
  refine ts_iadd dX8_above_11 ?_
  refine tq_callV (y2 := mX8_run) [tv_I (tv_kab (Int.toNat a1)), tv_I a2, tv_I a3, tv_I (tv_w (a4 + 1))] [] 43 (st' := fun r2 => [tv_I r2]) tw_X8_run tx_X8_run tw_c8 ga_c_43 tl_X8_32 rfl rfl rfl rfl (fun _ => rfl) dX8_above_12 (hrec2 (tv_kab (Int.toNat a1)) a2 a3 (tv_w (a4 + 1)) D) (fun r2 D3 => ?_)
  exact td_iret rfl dX8_above_15
def F_X8_run_55 (rec : Nat → Int → Int → Int → Int → td_D → Option (Int × td_D)) (v3 : Int) (v4 : Int) (v5 : Int) (D : td_D) : Option (Int × td_D) :=
  if v5 = 0 then
    some (0, D)
  else
    if v4 ≤ 40 then
      if 24 ≤ D 43 3 then
        td_l (td_upd D 43 3 (tv_w ((D 43 3) + 1))) fun D1 =>
        td_b (rec 3 v5 v3 v4 0 D1) fun r2 D3 =>
        some (r2, D3)
      else
        if 0 ≤ D 43 3 ∧ D 43 3 < ((24 : Nat) : Int) then
          td_l (td_upd D 45 (Int.toNat (D 43 3)) v5) fun D5 =>
          td_l (td_upd D5 43 3 (tv_w ((D5 43 3) + 1))) fun D6 =>
          td_b (rec 3 v5 v3 v4 0 D6) fun r7 D8 =>
          some (r7, D8)
        else none
    else
      some (0, D)
set_option maxHeartbeats 4000000 in
set_option maxRecDepth 20000 in
theorem S_X8_run_55 {l : Launch} {E : tv_E} (hE : tv_hE E) (d : Nat) (rec : Nat → Int → Int → Int → Int → td_D → Option (Int × td_D)) (hrec0 : ∀ (a1 : Int) (a2 : Int) (a3 : Int), ∀ D : td_D, td_msim l E (d + 1) mX8_own g_c [tv_R 43, tv_I a1, tv_I a2, tv_I a3] D (rec 0 a1 a2 a3 0 D)) (hrec1 : ∀ (a1 : Int) (a2 : Int) (a3 : Int) (a4 : Int), ∀ D : td_D, td_msim l E (d + 1) mX8_above g_c [tv_R 43, tv_I a1, tv_I a2, tv_I a3, tv_I a4] D (rec 1 a1 a2 a3 a4 D)) (hrec2 : ∀ (a1 : Int) (a2 : Int) (a3 : Int) (a4 : Int), ∀ D : td_D, td_msim l E (d + 1) mX8_run g_c [tv_R 43, tv_I a1, tv_I a2, tv_I a3, tv_I a4] D (rec 2 a1 a2 a3 a4 D)) (hrec3 : ∀ (a1 : Int) (a2 : Int) (a3 : Int), ∀ D : td_D, td_msim l E (d + 1) mX8_answer g_c [tv_R 43, tv_I a1, tv_I a2, tv_I a3] D (rec 3 a1 a2 a3 0 D)) (v3 : Int) (v4 : Int) (v5 : Int) (D : td_D) : td_sim l E (d + 2) mX8_run g_c 55 [tv_R 43, tv_U, tv_U, tv_I v3, tv_I v4, tv_I v5, tv_U, tv_U] [] D (F_X8_run_55 rec v3 v4 v5 D) := by
  unfold F_X8_run_55
  refine ts_iload rfl dX8_run_55 ?_
  refine td_if_eq (tgt := 67) rfl dX8_run_57 ?_ ?_
  · refine ts_iconst rfl dX8_run_67 ?_
    exact td_iret rfl dX8_run_68
  · refine ts_iload rfl dX8_run_60 ?_
    refine ts_bipush rfl dX8_run_62 ?_
    refine td_icmp_le (tgt := 69) rfl dX8_run_64 ?_ ?_
    · refine ts_aload_n (i := 0) rfl rfl dX8_run_69 ?_
      refine td_getI tl_X8_22 rfl ga_c_43 rfl dX8_run_70 ?_
      refine ts_bipush rfl dX8_run_73 ?_
      refine td_icmp_ge (tgt := 89) rfl dX8_run_75 ?_ ?_
      · refine ts_aload_n (i := 0) rfl rfl dX8_run_89 ?_
        refine ts_dupR dX8_run_90 ?_
        refine td_getI tl_X8_22 rfl ga_c_43 rfl dX8_run_91 ?_
        refine ts_iconst rfl dX8_run_94 ?_
        refine ts_iadd dX8_run_95 ?_
        refine td_putI tf_X8_22 (by intro h; cases h) rfl ga_c_43 rfl dX8_run_96 ?_
        refine td_let (fun D1 => ?_)
        refine ts_aload_n (i := 0) rfl rfl dX8_run_99 ?_
        refine ts_iload rfl dX8_run_100 ?_
        refine ts_iload_n (i := 3) rfl rfl dX8_run_102 ?_
        refine ts_iload rfl dX8_run_103 ?_
        refine tq_callV (y2 := mX8_answer) [tv_I v5, tv_I v3, tv_I v4] [] 43 (st' := fun r2 => [tv_I r2]) tw_X8_answer tx_X8_answer tw_c8 ga_c_43 tl_X8_46 rfl rfl rfl rfl (fun _ => rfl) dX8_run_105 (hrec3 v5 v3 v4 D1) (fun r2 D3 => ?_)
        exact td_iret rfl dX8_run_108
      · refine ts_aload_n (i := 0) rfl rfl dX8_run_78 ?_
        refine td_getR (q := 45) tl_X8_19 rfl ga_c_43 rfl dX8_run_79 ?_
        refine ts_aload_n (i := 0) rfl rfl dX8_run_82 ?_
        refine td_getI tl_X8_22 rfl ga_c_43 rfl dX8_run_83 ?_
        refine ts_iload rfl dX8_run_86 ?_
        refine td_guard (fun h4 => ?_)
        refine td_iastK ga_c_45 (gn_c_45 _) h4 dX8_run_88 ?_
        refine td_let (fun D5 => ?_)
        refine ts_aload_n (i := 0) rfl rfl dX8_run_89 ?_
        refine ts_dupR dX8_run_90 ?_
        refine td_getI tl_X8_22 rfl ga_c_43 rfl dX8_run_91 ?_
        refine ts_iconst rfl dX8_run_94 ?_
        refine ts_iadd dX8_run_95 ?_
        refine td_putI tf_X8_22 (by intro h; cases h) rfl ga_c_43 rfl dX8_run_96 ?_
        refine td_let (fun D6 => ?_)
        refine ts_aload_n (i := 0) rfl rfl dX8_run_99 ?_
        refine ts_iload rfl dX8_run_100 ?_
        refine ts_iload_n (i := 3) rfl rfl dX8_run_102 ?_
        refine ts_iload rfl dX8_run_103 ?_
        refine tq_callV (y2 := mX8_answer) [tv_I v5, tv_I v3, tv_I v4] [] 43 (st' := fun r7 => [tv_I r7]) tw_X8_answer tx_X8_answer tw_c8 ga_c_43 tl_X8_46 rfl rfl rfl rfl (fun _ => rfl) dX8_run_105 (hrec3 v5 v3 v4 D6) (fun r7 D8 => ?_)
        exact td_iret rfl dX8_run_108
    · refine ts_iconst rfl dX8_run_67 ?_
      exact td_iret rfl dX8_run_68
def F_X8_run_9 (rec : Nat → Int → Int → Int → Int → td_D → Option (Int × td_D)) : Nat → Int → Int → Int → Int → Int → Int → td_D → Option (Int × td_D)
  | 0, _, _, _, _, _, _, _ => none
  | n + 1, v2, v3, v4, v5, v6, v7, D =>
    if 8 ≤ v7 then
      F_X8_run_55 rec v3 v4 v5 D
    else
      td_b (F_X11_isKind v6 D) fun r9 D10 =>
      if r9 = 0 then
        F_X8_run_55 rec v3 v4 v5 D10
      else
        if v5 = 0 then
          if 0 ≤ tv_w ((tv_w (v6 * 4)) + v2) ∧ tv_w ((tv_w (v6 * 4)) + v2) < ((32 : Nat) : Int) then
            if 0 ≤ v6 ∧ v6 < ((8 : Nat) : Int) then
              F_X8_run_9 rec n v2 v3 v4 (tv_own (Int.toNat (tv_w ((tv_w (v6 * 4)) + v2)))) (tv_kab (Int.toNat v6)) (tv_w (v7 + 1)) D10
            else none
          else none
        else
          F_X8_run_55 rec v3 v4 v5 D10
set_option maxHeartbeats 4000000 in
set_option maxRecDepth 20000 in
theorem S_X8_run_9 {l : Launch} {E : tv_E} (hE : tv_hE E) (d : Nat) (rec : Nat → Int → Int → Int → Int → td_D → Option (Int × td_D)) (hrec0 : ∀ (a1 : Int) (a2 : Int) (a3 : Int), ∀ D : td_D, td_msim l E (d + 1) mX8_own g_c [tv_R 43, tv_I a1, tv_I a2, tv_I a3] D (rec 0 a1 a2 a3 0 D)) (hrec1 : ∀ (a1 : Int) (a2 : Int) (a3 : Int) (a4 : Int), ∀ D : td_D, td_msim l E (d + 1) mX8_above g_c [tv_R 43, tv_I a1, tv_I a2, tv_I a3, tv_I a4] D (rec 1 a1 a2 a3 a4 D)) (hrec2 : ∀ (a1 : Int) (a2 : Int) (a3 : Int) (a4 : Int), ∀ D : td_D, td_msim l E (d + 1) mX8_run g_c [tv_R 43, tv_I a1, tv_I a2, tv_I a3, tv_I a4] D (rec 2 a1 a2 a3 a4 D)) (hrec3 : ∀ (a1 : Int) (a2 : Int) (a3 : Int), ∀ D : td_D, td_msim l E (d + 1) mX8_answer g_c [tv_R 43, tv_I a1, tv_I a2, tv_I a3] D (rec 3 a1 a2 a3 0 D)) : ∀ (n : Nat) (v2 : Int) (v3 : Int) (v4 : Int) (v5 : Int) (v6 : Int) (v7 : Int) (D : td_D), td_sim l E (d + 2) mX8_run g_c 9 [tv_R 43, tv_U, tv_I v2, tv_I v3, tv_I v4, tv_I v5, tv_I v6, tv_I v7] [] D (F_X8_run_9 rec n v2 v3 v4 v5 v6 v7 D) := by
  intro n
  induction n with
  | zero => intros; exact tv_none
  | succ n ih =>
    intro v2 v3 v4 v5 v6 v7 D
    show td_sim _ _ _ _ _ _ _ _ _ (F_X8_run_9 rec (n + 1) v2 v3 v4 v5 v6 v7 D)
    unfold F_X8_run_9
    refine ts_iload rfl dX8_run_9 ?_
    refine ts_bipush rfl dX8_run_11 ?_
    refine td_icmp_ge (tgt := 55) rfl dX8_run_13 ?_ ?_
    · refine tv_weak (ls' := [tv_R 43, tv_U, tv_U, tv_I v3, tv_I v4, tv_I v5, tv_U, tv_U]) ⟨Or.inr rfl, Or.inl rfl, Or.inl rfl, Or.inr rfl, Or.inr rfl, Or.inr rfl, Or.inl rfl, Or.inl rfl, trivial⟩ ?_
      exact S_X8_run_55 hE d rec hrec0 hrec1 hrec2 hrec3 v3 v4 v5 D
    · refine ts_iload rfl dX8_run_16 ?_
      refine tq_callSN (y2 := mX11_isKind) [tv_I v6] [] (st' := fun r9 => [tv_I r9]) tw_X11_isKind tx_X11_isKind tl_X8_39 rfl rfl rfl rfl (fun _ => rfl) dX8_run_18 (S_X11_isKind l hE _ v6 D) (fun r9 D10 => ?_)
      refine td_if_eq (tgt := 55) rfl dX8_run_21 ?_ ?_
      · refine tv_weak (ls' := [tv_R 43, tv_U, tv_U, tv_I v3, tv_I v4, tv_I v5, tv_U, tv_U]) ⟨Or.inr rfl, Or.inl rfl, Or.inl rfl, Or.inr rfl, Or.inr rfl, Or.inr rfl, Or.inl rfl, Or.inl rfl, trivial⟩ ?_
        exact S_X8_run_55 hE d rec hrec0 hrec1 hrec2 hrec3 v3 v4 v5 D10
      · refine ts_iload rfl dX8_run_24 ?_
        refine td_if_ne (tgt := 55) rfl dX8_run_26 ?_ ?_
        · refine ts_getsN (q := 0) (Or.inl ⟨rfl, rfl⟩) tl_X8_43 dX8_run_29 ?_
          refine ts_iload rfl dX8_run_32 ?_
          refine ts_iconst rfl dX8_run_34 ?_
          refine ts_imul dX8_run_35 ?_
          refine ts_iload_n (i := 2) rfl rfl dX8_run_36 ?_
          refine ts_iadd dX8_run_37 ?_
          refine td_sald0 (q := 0) (n := 32) (f := tv_own) (by decide) hE.2.1 dX8_run_38 tv_own_in ?_
          refine tq_istore [tv_R 43, tv_U, tv_I v2, tv_I v3, tv_I v4, tv_I (tv_own (Int.toNat (tv_w ((tv_w (v6 * 4)) + v2)))), tv_I v6, tv_I v7] (Nat.le_of_ble_eq_true rfl) rfl rfl dX8_run_39 ?_
          refine ts_getsN (q := 1) (Or.inr ⟨rfl, rfl⟩) tl_X8_36 dX8_run_41 ?_
          refine ts_iload rfl dX8_run_44 ?_
          refine td_sald0 (q := 1) (n := 8) (f := tv_kab) (by decide) hE.2.2 dX8_run_46 tv_kab_in ?_
          refine tq_istore [tv_R 43, tv_U, tv_I v2, tv_I v3, tv_I v4, tv_I (tv_own (Int.toNat (tv_w ((tv_w (v6 * 4)) + v2)))), tv_I (tv_kab (Int.toNat v6)), tv_I v7] (Nat.le_of_ble_eq_true rfl) rfl rfl dX8_run_47 ?_
          refine tq_iinc [tv_R 43, tv_U, tv_I v2, tv_I v3, tv_I v4, tv_I (tv_own (Int.toNat (tv_w ((tv_w (v6 * 4)) + v2)))), tv_I (tv_kab (Int.toNat v6)), tv_I (tv_w (v7 + 1))] rfl rfl rfl dX8_run_49 ?_
          refine ts_goto (tgt := 9) rfl dX8_run_52 ?_
          exact ih v2 v3 v4 (tv_own (Int.toNat (tv_w ((tv_w (v6 * 4)) + v2)))) (tv_kab (Int.toNat v6)) (tv_w (v7 + 1)) D10
        · refine tv_weak (ls' := [tv_R 43, tv_U, tv_U, tv_I v3, tv_I v4, tv_I v5, tv_U, tv_U]) ⟨Or.inr rfl, Or.inl rfl, Or.inl rfl, Or.inr rfl, Or.inr rfl, Or.inr rfl, Or.inl rfl, Or.inl rfl, trivial⟩ ?_
          exact S_X8_run_55 hE d rec hrec0 hrec1 hrec2 hrec3 v3 v4 v5 D10
def B_X8_run (rec : Nat → Int → Int → Int → Int → td_D → Option (Int × td_D)) (a1 : Int) (a2 : Int) (a3 : Int) (a4 : Int) (D : td_D) : Option (Int × td_D) :=
  F_X8_run_9 rec tf_N a2 a3 a4 0 a1 0 D
set_option maxHeartbeats 4000000 in
set_option maxRecDepth 20000 in
theorem T_X8_run (l : Launch) {E : tv_E} (hE : tv_hE E) (d : Nat) (rec : Nat → Int → Int → Int → Int → td_D → Option (Int × td_D)) (hrec0 : ∀ (a1 : Int) (a2 : Int) (a3 : Int), ∀ D : td_D, td_msim l E (d + 1) mX8_own g_c [tv_R 43, tv_I a1, tv_I a2, tv_I a3] D (rec 0 a1 a2 a3 0 D)) (hrec1 : ∀ (a1 : Int) (a2 : Int) (a3 : Int) (a4 : Int), ∀ D : td_D, td_msim l E (d + 1) mX8_above g_c [tv_R 43, tv_I a1, tv_I a2, tv_I a3, tv_I a4] D (rec 1 a1 a2 a3 a4 D)) (hrec2 : ∀ (a1 : Int) (a2 : Int) (a3 : Int) (a4 : Int), ∀ D : td_D, td_msim l E (d + 1) mX8_run g_c [tv_R 43, tv_I a1, tv_I a2, tv_I a3, tv_I a4] D (rec 2 a1 a2 a3 a4 D)) (hrec3 : ∀ (a1 : Int) (a2 : Int) (a3 : Int), ∀ D : td_D, td_msim l E (d + 1) mX8_answer g_c [tv_R 43, tv_I a1, tv_I a2, tv_I a3] D (rec 3 a1 a2 a3 0 D)) (a1 : Int) (a2 : Int) (a3 : Int) (a4 : Int) (D : td_D) : td_msim l E (d + 2) mX8_run g_c [tv_R 43, tv_I a1, tv_I a2, tv_I a3, tv_I a4] D (B_X8_run rec a1 a2 a3 a4 D) := by
  refine td_meetL (ls := [tv_R 43, tv_I a1, tv_I a2, tv_I a3, tv_I a4, tv_U, tv_U, tv_U]) rfl (Nat.le_of_ble_eq_true rfl) rfl ?_
  unfold B_X8_run
  refine ts_iconst rfl dX8_run_0 ?_
  refine tq_istore [tv_R 43, tv_I a1, tv_I a2, tv_I a3, tv_I a4, tv_I 0, tv_U, tv_U] (Nat.le_of_ble_eq_true rfl) rfl rfl dX8_run_1 ?_
  refine ts_iload_n (i := 1) rfl rfl dX8_run_3 ?_
  refine tq_istore [tv_R 43, tv_I a1, tv_I a2, tv_I a3, tv_I a4, tv_I 0, tv_I a1, tv_U] (Nat.le_of_ble_eq_true rfl) rfl rfl dX8_run_4 ?_
  refine ts_iconst rfl dX8_run_6 ?_
  refine tq_istore [tv_R 43, tv_I a1, tv_I a2, tv_I a3, tv_I a4, tv_I 0, tv_I a1, tv_I 0] (Nat.le_of_ble_eq_true rfl) rfl rfl dX8_run_7 ?_
  refine tv_weak (ls' := [tv_R 43, tv_U, tv_I a2, tv_I a3, tv_I a4, tv_I 0, tv_I a1, tv_I 0]) ⟨Or.inr rfl, Or.inl rfl, Or.inr rfl, Or.inr rfl, Or.inr rfl, Or.inr rfl, Or.inr rfl, Or.inr rfl, trivial⟩ ?_
  exact S_X8_run_9 hE d rec hrec0 hrec1 hrec2 hrec3 tf_N a2 a3 a4 0 a1 0 D
def B_X8_answer (rec : Nat → Int → Int → Int → Int → td_D → Option (Int × td_D)) (a1 : Int) (a2 : Int) (a3 : Int) (D : td_D) : Option (Int × td_D) :=
  if a1 = 1 then
    some (tv_w (a2 + (D 43 4)), D)
  else if a1 = 2 then
    td_b (rec 0 1 a2 a3 0 D) fun r3 D4 =>
    td_b (rec 0 2 1 a3 0 D4) fun r5 D6 =>
    some (tv_w (r3 - r5), D6)
  else if a1 = 10 then
    td_b (rec 0 0 a2 a3 0 D) fun r8 D9 =>
    some (tv_w (r8 * 2), D9)
  else if a1 = 11 then
    some (tv_xor a2 (D 43 4), D)
  else if a1 = 20 then
    td_b (rec 1 1 0 a2 a3 D) fun r12 D13 =>
    some (tv_w (r12 + 3), D13)
  else if a1 = 30 then
    td_b (rec 1 2 1 a2 a3 D) fun r15 D16 =>
    some (tv_w (-r15), D16)
  else if a1 = 40 then
    td_b (rec 1 3 2 a2 a3 D) fun r18 D19 =>
    some (tv_w (r18 * 3), D19)
  else if a1 = 41 then
    td_b (rec 1 3 1 (tv_w (a2 + 1)) a3 D) fun r21 D22 =>
    some (r21, D22)
  else if a1 = 50 then
    td_b (rec 1 4 3 a2 a3 D) fun r24 D25 =>
    some (tv_xor r24 5, D25)
  else if a1 = 60 then
    td_b (rec 1 5 2 a2 a3 D) fun r27 D28 =>
    td_b (rec 0 0 2 a3 0 D28) fun r29 D30 =>
    some (tv_w (r27 - r29), D30)
  else if a1 = 61 then
    td_b (rec 1 5 3 a2 a3 D) fun r32 D33 =>
    some (tv_w (r32 + 1), D33)
  else if a1 = 70 then
    td_b (rec 1 6 0 a2 a3 D) fun r35 D36 =>
    some (tv_w (r35 * 2), D36)
  else if a1 = 80 then
    td_b (rec 1 7 1 a2 a3 D) fun r38 D39 =>
    td_b (rec 0 2 2 a3 0 D39) fun r40 D41 =>
    some (tv_w (r38 + r40), D41)
  else if a1 = 81 then
    td_b (rec 1 7 0 a2 a3 D) fun r43 D44 =>
    some (tv_w (r43 - 1), D44)
  else
    some (0, D)
set_option maxHeartbeats 4000000 in
set_option maxRecDepth 20000 in
theorem T_X8_answer (l : Launch) {E : tv_E} (hE : tv_hE E) (d : Nat) (rec : Nat → Int → Int → Int → Int → td_D → Option (Int × td_D)) (hrec0 : ∀ (a1 : Int) (a2 : Int) (a3 : Int), ∀ D : td_D, td_msim l E (d + 1) mX8_own g_c [tv_R 43, tv_I a1, tv_I a2, tv_I a3] D (rec 0 a1 a2 a3 0 D)) (hrec1 : ∀ (a1 : Int) (a2 : Int) (a3 : Int) (a4 : Int), ∀ D : td_D, td_msim l E (d + 1) mX8_above g_c [tv_R 43, tv_I a1, tv_I a2, tv_I a3, tv_I a4] D (rec 1 a1 a2 a3 a4 D)) (hrec2 : ∀ (a1 : Int) (a2 : Int) (a3 : Int) (a4 : Int), ∀ D : td_D, td_msim l E (d + 1) mX8_run g_c [tv_R 43, tv_I a1, tv_I a2, tv_I a3, tv_I a4] D (rec 2 a1 a2 a3 a4 D)) (hrec3 : ∀ (a1 : Int) (a2 : Int) (a3 : Int), ∀ D : td_D, td_msim l E (d + 1) mX8_answer g_c [tv_R 43, tv_I a1, tv_I a2, tv_I a3] D (rec 3 a1 a2 a3 0 D)) (a1 : Int) (a2 : Int) (a3 : Int) (D : td_D) : td_msim l E (d + 2) mX8_answer g_c [tv_R 43, tv_I a1, tv_I a2, tv_I a3] D (B_X8_answer rec a1 a2 a3 D) := by
  refine td_meetL (ls := [tv_R 43, tv_I a1, tv_I a2, tv_I a3]) rfl (Nat.le_of_ble_eq_true rfl) rfl ?_
  unfold B_X8_answer
  refine ts_iload_n (i := 1) rfl rfl dX8_answer_0 ?_
  refine td_ite (fun h1 => ?_) (fun h1 => ?_)
  · refine ts_look (off := 123) (tgt := 124) (by decide) (by rw [h1]; rfl) rfl dX8_answer_1 ?_
    refine ts_iload_n (i := 2) rfl rfl dX8_answer_124 ?_
    refine ts_aload_n (i := 0) rfl rfl dX8_answer_125 ?_
    refine td_getI tl_X8_25 rfl ga_c_43 rfl dX8_answer_126 ?_
    refine ts_iadd dX8_answer_129 ?_
    exact td_iret rfl dX8_answer_130
  refine td_ite (fun h2 => ?_) (fun h2 => ?_)
  · refine ts_look (off := 130) (tgt := 131) (by decide) (by rw [h2]; rfl) rfl dX8_answer_1 ?_
    refine ts_aload_n (i := 0) rfl rfl dX8_answer_131 ?_
    refine ts_iconst rfl dX8_answer_132 ?_
    refine ts_iload_n (i := 2) rfl rfl dX8_answer_133 ?_
    refine ts_iload_n (i := 3) rfl rfl dX8_answer_134 ?_
    refine tq_callV (y2 := mX8_own) [tv_I 1, tv_I a2, tv_I a3] [] 43 (st' := fun r3 => [tv_I r3]) tw_X8_own tx_X8_own tw_c8 ga_c_43 tl_X8_28 rfl rfl rfl rfl (fun _ => rfl) dX8_answer_135 (hrec0 1 a2 a3 D) (fun r3 D4 => ?_)
    refine ts_aload_n (i := 0) rfl rfl dX8_answer_138 ?_
    refine ts_iconst rfl dX8_answer_139 ?_
    refine ts_iconst rfl dX8_answer_140 ?_
    refine ts_iload_n (i := 3) rfl rfl dX8_answer_141 ?_
    refine tq_callV (y2 := mX8_own) [tv_I 2, tv_I 1, tv_I a3] [tv_I r3] 43 (st' := fun r5 => [tv_I r5, tv_I r3]) tw_X8_own tx_X8_own tw_c8 ga_c_43 tl_X8_28 rfl rfl rfl rfl (fun _ => rfl) dX8_answer_142 (hrec0 2 1 a3 D4) (fun r5 D6 => ?_)
    refine ts_isub dX8_answer_145 ?_
    exact td_iret rfl dX8_answer_146
  refine td_ite (fun h7 => ?_) (fun h7 => ?_)
  · refine ts_look (off := 146) (tgt := 147) (by decide) (by rw [h7]; rfl) rfl dX8_answer_1 ?_
    refine ts_aload_n (i := 0) rfl rfl dX8_answer_147 ?_
    refine ts_iconst rfl dX8_answer_148 ?_
    refine ts_iload_n (i := 2) rfl rfl dX8_answer_149 ?_
    refine ts_iload_n (i := 3) rfl rfl dX8_answer_150 ?_
    refine tq_callV (y2 := mX8_own) [tv_I 0, tv_I a2, tv_I a3] [] 43 (st' := fun r8 => [tv_I r8]) tw_X8_own tx_X8_own tw_c8 ga_c_43 tl_X8_28 rfl rfl rfl rfl (fun _ => rfl) dX8_answer_151 (hrec0 0 a2 a3 D) (fun r8 D9 => ?_)
    refine ts_iconst rfl dX8_answer_154 ?_
    refine ts_imul dX8_answer_155 ?_
    exact td_iret rfl dX8_answer_156
  refine td_ite (fun h10 => ?_) (fun h10 => ?_)
  · refine ts_look (off := 156) (tgt := 157) (by decide) (by rw [h10]; rfl) rfl dX8_answer_1 ?_
    refine ts_iload_n (i := 2) rfl rfl dX8_answer_157 ?_
    refine ts_aload_n (i := 0) rfl rfl dX8_answer_158 ?_
    refine td_getI tl_X8_25 rfl ga_c_43 rfl dX8_answer_159 ?_
    refine ts_ixor dX8_answer_162 ?_
    exact td_iret rfl dX8_answer_163
  refine td_ite (fun h11 => ?_) (fun h11 => ?_)
  · refine ts_look (off := 163) (tgt := 164) (by decide) (by rw [h11]; rfl) rfl dX8_answer_1 ?_
    refine ts_aload_n (i := 0) rfl rfl dX8_answer_164 ?_
    refine ts_iconst rfl dX8_answer_165 ?_
    refine ts_iconst rfl dX8_answer_166 ?_
    refine ts_iload_n (i := 2) rfl rfl dX8_answer_167 ?_
    refine ts_iload_n (i := 3) rfl rfl dX8_answer_168 ?_
    refine tq_callV (y2 := mX8_above) [tv_I 1, tv_I 0, tv_I a2, tv_I a3] [] 43 (st' := fun r12 => [tv_I r12]) tw_X8_above tx_X8_above tw_c8 ga_c_43 tl_X8_49 rfl rfl rfl rfl (fun _ => rfl) dX8_answer_169 (hrec1 1 0 a2 a3 D) (fun r12 D13 => ?_)
    refine ts_iconst rfl dX8_answer_172 ?_
    refine ts_iadd dX8_answer_173 ?_
    exact td_iret rfl dX8_answer_174
  refine td_ite (fun h14 => ?_) (fun h14 => ?_)
  · refine ts_look (off := 174) (tgt := 175) (by decide) (by rw [h14]; rfl) rfl dX8_answer_1 ?_
    refine ts_aload_n (i := 0) rfl rfl dX8_answer_175 ?_
    refine ts_iconst rfl dX8_answer_176 ?_
    refine ts_iconst rfl dX8_answer_177 ?_
    refine ts_iload_n (i := 2) rfl rfl dX8_answer_178 ?_
    refine ts_iload_n (i := 3) rfl rfl dX8_answer_179 ?_
    refine tq_callV (y2 := mX8_above) [tv_I 2, tv_I 1, tv_I a2, tv_I a3] [] 43 (st' := fun r15 => [tv_I r15]) tw_X8_above tx_X8_above tw_c8 ga_c_43 tl_X8_49 rfl rfl rfl rfl (fun _ => rfl) dX8_answer_180 (hrec1 2 1 a2 a3 D) (fun r15 D16 => ?_)
    refine ts_ineg dX8_answer_183 ?_
    exact td_iret rfl dX8_answer_184
  refine td_ite (fun h17 => ?_) (fun h17 => ?_)
  · refine ts_look (off := 184) (tgt := 185) (by decide) (by rw [h17]; rfl) rfl dX8_answer_1 ?_
    refine ts_aload_n (i := 0) rfl rfl dX8_answer_185 ?_
    refine ts_iconst rfl dX8_answer_186 ?_
    refine ts_iconst rfl dX8_answer_187 ?_
    refine ts_iload_n (i := 2) rfl rfl dX8_answer_188 ?_
    refine ts_iload_n (i := 3) rfl rfl dX8_answer_189 ?_
    refine tq_callV (y2 := mX8_above) [tv_I 3, tv_I 2, tv_I a2, tv_I a3] [] 43 (st' := fun r18 => [tv_I r18]) tw_X8_above tx_X8_above tw_c8 ga_c_43 tl_X8_49 rfl rfl rfl rfl (fun _ => rfl) dX8_answer_190 (hrec1 3 2 a2 a3 D) (fun r18 D19 => ?_)
    refine ts_iconst rfl dX8_answer_193 ?_
    refine ts_imul dX8_answer_194 ?_
    exact td_iret rfl dX8_answer_195
  refine td_ite (fun h20 => ?_) (fun h20 => ?_)
  · refine ts_look (off := 195) (tgt := 196) (by decide) (by rw [h20]; rfl) rfl dX8_answer_1 ?_
    refine ts_aload_n (i := 0) rfl rfl dX8_answer_196 ?_
    refine ts_iconst rfl dX8_answer_197 ?_
    refine ts_iconst rfl dX8_answer_198 ?_
    refine ts_iload_n (i := 2) rfl rfl dX8_answer_199 ?_
    refine ts_iconst rfl dX8_answer_200 ?_
    refine ts_iadd dX8_answer_201 ?_
    refine ts_iload_n (i := 3) rfl rfl dX8_answer_202 ?_
    refine tq_callV (y2 := mX8_above) [tv_I 3, tv_I 1, tv_I (tv_w (a2 + 1)), tv_I a3] [] 43 (st' := fun r21 => [tv_I r21]) tw_X8_above tx_X8_above tw_c8 ga_c_43 tl_X8_49 rfl rfl rfl rfl (fun _ => rfl) dX8_answer_203 (hrec1 3 1 (tv_w (a2 + 1)) a3 D) (fun r21 D22 => ?_)
    exact td_iret rfl dX8_answer_206
  refine td_ite (fun h23 => ?_) (fun h23 => ?_)
  · refine ts_look (off := 206) (tgt := 207) (by decide) (by rw [h23]; rfl) rfl dX8_answer_1 ?_
    refine ts_aload_n (i := 0) rfl rfl dX8_answer_207 ?_
    refine ts_iconst rfl dX8_answer_208 ?_
    refine ts_iconst rfl dX8_answer_209 ?_
    refine ts_iload_n (i := 2) rfl rfl dX8_answer_210 ?_
    refine ts_iload_n (i := 3) rfl rfl dX8_answer_211 ?_
    refine tq_callV (y2 := mX8_above) [tv_I 4, tv_I 3, tv_I a2, tv_I a3] [] 43 (st' := fun r24 => [tv_I r24]) tw_X8_above tx_X8_above tw_c8 ga_c_43 tl_X8_49 rfl rfl rfl rfl (fun _ => rfl) dX8_answer_212 (hrec1 4 3 a2 a3 D) (fun r24 D25 => ?_)
    refine ts_iconst rfl dX8_answer_215 ?_
    refine ts_ixor dX8_answer_216 ?_
    exact td_iret rfl dX8_answer_217
  refine td_ite (fun h26 => ?_) (fun h26 => ?_)
  · refine ts_look (off := 217) (tgt := 218) (by decide) (by rw [h26]; rfl) rfl dX8_answer_1 ?_
    refine ts_aload_n (i := 0) rfl rfl dX8_answer_218 ?_
    refine ts_iconst rfl dX8_answer_219 ?_
    refine ts_iconst rfl dX8_answer_220 ?_
    refine ts_iload_n (i := 2) rfl rfl dX8_answer_221 ?_
    refine ts_iload_n (i := 3) rfl rfl dX8_answer_222 ?_
    refine tq_callV (y2 := mX8_above) [tv_I 5, tv_I 2, tv_I a2, tv_I a3] [] 43 (st' := fun r27 => [tv_I r27]) tw_X8_above tx_X8_above tw_c8 ga_c_43 tl_X8_49 rfl rfl rfl rfl (fun _ => rfl) dX8_answer_223 (hrec1 5 2 a2 a3 D) (fun r27 D28 => ?_)
    refine ts_aload_n (i := 0) rfl rfl dX8_answer_226 ?_
    refine ts_iconst rfl dX8_answer_227 ?_
    refine ts_iconst rfl dX8_answer_228 ?_
    refine ts_iload_n (i := 3) rfl rfl dX8_answer_229 ?_
    refine tq_callV (y2 := mX8_own) [tv_I 0, tv_I 2, tv_I a3] [tv_I r27] 43 (st' := fun r29 => [tv_I r29, tv_I r27]) tw_X8_own tx_X8_own tw_c8 ga_c_43 tl_X8_28 rfl rfl rfl rfl (fun _ => rfl) dX8_answer_230 (hrec0 0 2 a3 D28) (fun r29 D30 => ?_)
    refine ts_isub dX8_answer_233 ?_
    exact td_iret rfl dX8_answer_234
  refine td_ite (fun h31 => ?_) (fun h31 => ?_)
  · refine ts_look (off := 234) (tgt := 235) (by decide) (by rw [h31]; rfl) rfl dX8_answer_1 ?_
    refine ts_aload_n (i := 0) rfl rfl dX8_answer_235 ?_
    refine ts_iconst rfl dX8_answer_236 ?_
    refine ts_iconst rfl dX8_answer_237 ?_
    refine ts_iload_n (i := 2) rfl rfl dX8_answer_238 ?_
    refine ts_iload_n (i := 3) rfl rfl dX8_answer_239 ?_
    refine tq_callV (y2 := mX8_above) [tv_I 5, tv_I 3, tv_I a2, tv_I a3] [] 43 (st' := fun r32 => [tv_I r32]) tw_X8_above tx_X8_above tw_c8 ga_c_43 tl_X8_49 rfl rfl rfl rfl (fun _ => rfl) dX8_answer_240 (hrec1 5 3 a2 a3 D) (fun r32 D33 => ?_)
    refine ts_iconst rfl dX8_answer_243 ?_
    refine ts_iadd dX8_answer_244 ?_
    exact td_iret rfl dX8_answer_245
  refine td_ite (fun h34 => ?_) (fun h34 => ?_)
  · refine ts_look (off := 245) (tgt := 246) (by decide) (by rw [h34]; rfl) rfl dX8_answer_1 ?_
    refine ts_aload_n (i := 0) rfl rfl dX8_answer_246 ?_
    refine ts_bipush rfl dX8_answer_247 ?_
    refine ts_iconst rfl dX8_answer_249 ?_
    refine ts_iload_n (i := 2) rfl rfl dX8_answer_250 ?_
    refine ts_iload_n (i := 3) rfl rfl dX8_answer_251 ?_
    refine tq_callV (y2 := mX8_above) [tv_I 6, tv_I 0, tv_I a2, tv_I a3] [] 43 (st' := fun r35 => [tv_I r35]) tw_X8_above tx_X8_above tw_c8 ga_c_43 tl_X8_49 rfl rfl rfl rfl (fun _ => rfl) dX8_answer_252 (hrec1 6 0 a2 a3 D) (fun r35 D36 => ?_)
    refine ts_iconst rfl dX8_answer_255 ?_
    refine ts_imul dX8_answer_256 ?_
    exact td_iret rfl dX8_answer_257
  refine td_ite (fun h37 => ?_) (fun h37 => ?_)
  · refine ts_look (off := 257) (tgt := 258) (by decide) (by rw [h37]; rfl) rfl dX8_answer_1 ?_
    refine ts_aload_n (i := 0) rfl rfl dX8_answer_258 ?_
    refine ts_bipush rfl dX8_answer_259 ?_
    refine ts_iconst rfl dX8_answer_261 ?_
    refine ts_iload_n (i := 2) rfl rfl dX8_answer_262 ?_
    refine ts_iload_n (i := 3) rfl rfl dX8_answer_263 ?_
    refine tq_callV (y2 := mX8_above) [tv_I 7, tv_I 1, tv_I a2, tv_I a3] [] 43 (st' := fun r38 => [tv_I r38]) tw_X8_above tx_X8_above tw_c8 ga_c_43 tl_X8_49 rfl rfl rfl rfl (fun _ => rfl) dX8_answer_264 (hrec1 7 1 a2 a3 D) (fun r38 D39 => ?_)
    refine ts_aload_n (i := 0) rfl rfl dX8_answer_267 ?_
    refine ts_iconst rfl dX8_answer_268 ?_
    refine ts_iconst rfl dX8_answer_269 ?_
    refine ts_iload_n (i := 3) rfl rfl dX8_answer_270 ?_
    refine tq_callV (y2 := mX8_own) [tv_I 2, tv_I 2, tv_I a3] [tv_I r38] 43 (st' := fun r40 => [tv_I r40, tv_I r38]) tw_X8_own tx_X8_own tw_c8 ga_c_43 tl_X8_28 rfl rfl rfl rfl (fun _ => rfl) dX8_answer_271 (hrec0 2 2 a3 D39) (fun r40 D41 => ?_)
    refine ts_iadd dX8_answer_274 ?_
    exact td_iret rfl dX8_answer_275
  refine td_ite (fun h42 => ?_) (fun h42 => ?_)
  · refine ts_look (off := 275) (tgt := 276) (by decide) (by rw [h42]; rfl) rfl dX8_answer_1 ?_
    refine ts_aload_n (i := 0) rfl rfl dX8_answer_276 ?_
    refine ts_bipush rfl dX8_answer_277 ?_
    refine ts_iconst rfl dX8_answer_279 ?_
    refine ts_iload_n (i := 2) rfl rfl dX8_answer_280 ?_
    refine ts_iload_n (i := 3) rfl rfl dX8_answer_281 ?_
    refine tq_callV (y2 := mX8_above) [tv_I 7, tv_I 0, tv_I a2, tv_I a3] [] 43 (st' := fun r43 => [tv_I r43]) tw_X8_above tx_X8_above tw_c8 ga_c_43 tl_X8_49 rfl rfl rfl rfl (fun _ => rfl) dX8_answer_282 (hrec1 7 0 a2 a3 D) (fun r43 D44 => ?_)
    refine ts_iconst rfl dX8_answer_285 ?_
    refine ts_isub dX8_answer_286 ?_
    exact td_iret rfl dX8_answer_287
  refine ts_look (off := 287) (tgt := 288) (by decide) (tv_lookd (by simp only [List.all_cons, List.all_nil, Bool.and_true, Bool.and_eq_true, decide_eq_true_eq]; exact ⟨h1, h2, h7, h10, h11, h14, h17, h20, h23, h26, h31, h34, h37, h42⟩)) rfl dX8_answer_1 ?_
  refine ts_iconst rfl dX8_answer_288 ?_
  exact td_iret rfl dX8_answer_289
def F_sw : Nat → Nat → Int → Int → Int → Int → td_D → Option (Int × td_D)
  | 0, _, _, _, _, _, _ => none
  | n + 1, t, b0, b1, b2, b3, D => if t = 0 then B_X8_own (F_sw n) b0 b1 b2 D else if t = 1 then B_X8_above (F_sw n) b0 b1 b2 b3 D else if t = 2 then B_X8_run (F_sw n) b0 b1 b2 b3 D else B_X8_answer (F_sw n) b0 b1 b2 D
set_option maxRecDepth 20000 in
theorem S_sw (l : Launch) {E : tv_E} (hE : tv_hE E) (d : Nat) : ∀ n : Nat, (∀ (a1 : Int) (a2 : Int) (a3 : Int) (D : td_D), td_msim l E (d + n + 1) mX8_own g_c [tv_R 43, tv_I a1, tv_I a2, tv_I a3] D (F_sw n 0 a1 a2 a3 0 D)) ∧ (∀ (a1 : Int) (a2 : Int) (a3 : Int) (a4 : Int) (D : td_D), td_msim l E (d + n + 1) mX8_above g_c [tv_R 43, tv_I a1, tv_I a2, tv_I a3, tv_I a4] D (F_sw n 1 a1 a2 a3 a4 D)) ∧ (∀ (a1 : Int) (a2 : Int) (a3 : Int) (a4 : Int) (D : td_D), td_msim l E (d + n + 1) mX8_run g_c [tv_R 43, tv_I a1, tv_I a2, tv_I a3, tv_I a4] D (F_sw n 2 a1 a2 a3 a4 D)) ∧ (∀ (a1 : Int) (a2 : Int) (a3 : Int) (D : td_D), td_msim l E (d + n + 1) mX8_answer g_c [tv_R 43, tv_I a1, tv_I a2, tv_I a3] D (F_sw n 3 a1 a2 a3 0 D)) := by
  intro n
  induction n with
  | zero => exact ⟨(by intros; intro r M hx; cases hx), (by intros; intro r M hx; cases hx), (by intros; intro r M hx; cases hx), (by intros; intro r M hx; cases hx)⟩
  | succ n ih =>
    obtain ⟨i0, i1, i2, i3⟩ := ih
    refine ⟨?_, ?_, ?_, ?_⟩
    · intro a1 a2 a3 D
      exact T_X8_own l hE (d + n) (F_sw n) i0 i1 i2 i3 a1 a2 a3 D
    · intro a1 a2 a3 a4 D
      exact T_X8_above l hE (d + n) (F_sw n) i0 i1 i2 i3 a1 a2 a3 a4 D
    · intro a1 a2 a3 a4 D
      exact T_X8_run l hE (d + n) (F_sw n) i0 i1 i2 i3 a1 a2 a3 a4 D
    · intro a1 a2 a3 D
      exact T_X8_answer l hE (d + n) (F_sw n) i0 i1 i2 i3 a1 a2 a3 D
def F_X8_own (a1 : Int) (a2 : Int) (a3 : Int) (D : td_D) : Option (Int × td_D) := F_sw 100 0 a1 a2 a3 0 D
theorem S_X8_own (l : Launch) {E : tv_E} (hE : tv_hE E) (d : Nat) (a1 : Int) (a2 : Int) (a3 : Int) (D : td_D) : td_msim l E (d + 101) mX8_own g_c [tv_R 43, tv_I a1, tv_I a2, tv_I a3] D (F_X8_own a1 a2 a3 D) := (S_sw l hE d 100).1 a1 a2 a3 D
def F_X8_above (a1 : Int) (a2 : Int) (a3 : Int) (a4 : Int) (D : td_D) : Option (Int × td_D) := F_sw 100 1 a1 a2 a3 a4 D
theorem S_X8_above (l : Launch) {E : tv_E} (hE : tv_hE E) (d : Nat) (a1 : Int) (a2 : Int) (a3 : Int) (a4 : Int) (D : td_D) : td_msim l E (d + 101) mX8_above g_c [tv_R 43, tv_I a1, tv_I a2, tv_I a3, tv_I a4] D (F_X8_above a1 a2 a3 a4 D) := (S_sw l hE d 100).2.1 a1 a2 a3 a4 D
def F_X8_run (a1 : Int) (a2 : Int) (a3 : Int) (a4 : Int) (D : td_D) : Option (Int × td_D) := F_sw 100 2 a1 a2 a3 a4 D
theorem S_X8_run (l : Launch) {E : tv_E} (hE : tv_hE E) (d : Nat) (a1 : Int) (a2 : Int) (a3 : Int) (a4 : Int) (D : td_D) : td_msim l E (d + 101) mX8_run g_c [tv_R 43, tv_I a1, tv_I a2, tv_I a3, tv_I a4] D (F_X8_run a1 a2 a3 a4 D) := (S_sw l hE d 100).2.2.1 a1 a2 a3 a4 D
def F_X8_answer (a1 : Int) (a2 : Int) (a3 : Int) (D : td_D) : Option (Int × td_D) := F_sw 100 3 a1 a2 a3 0 D
theorem S_X8_answer (l : Launch) {E : tv_E} (hE : tv_hE E) (d : Nat) (a1 : Int) (a2 : Int) (a3 : Int) (D : td_D) : td_msim l E (d + 101) mX8_answer g_c [tv_R 43, tv_I a1, tv_I a2, tv_I a3] D (F_X8_answer a1 a2 a3 D) := (S_sw l hE d 100).2.2.2 a1 a2 a3 D
def F_X9_readRank_37 (rec : Nat → Nat → Int → Int → td_D → Option (Int × td_D)) : Nat → Nat → Int → Int → Int → Int → td_D → Option (Int × td_D)
  | 0, _, _, _, _, _, _ => none
  | n + 1, v1, v2, v3, v4, v5, D =>
    if v4 ≤ v5 then
      some (0, D)
    else
      if D 10 3 = 0 then
        td_b (F_X9_sign D) fun r1 D2 =>
        td_b (F_X9_rankOf r1 D2) fun r3 D4 =>
        if r3 = v2 then
          td_b (F_X9_sign D4) fun r5 D6 =>
          td_l (td_upd D6 10 2 (tv_w ((D6 10 2) + 1))) fun D7 =>
          td_b (rec 0 v1 (tv_w (v2 + 1)) v3 D7) fun _ D9 =>
          td_b (F_X1_add v1 r5 0 D9) fun _ D11 =>
          F_X9_readRank_37 rec n v1 v2 v3 v4 (tv_w (v5 + 1)) D11
        else
          some (0, D4)
      else
        some (0, D)
set_option maxHeartbeats 4000000 in
set_option maxRecDepth 20000 in
theorem S_X9_readRank_37 {l : Launch} {E : tv_E} (hE : tv_hE E) (d : Nat) (rec : Nat → Nat → Int → Int → td_D → Option (Int × td_D)) (hrec0 : ∀ (p1 : Nat) (a2 : Int) (a3 : Int), tv_isCode p1 → ∀ D : td_D, td_msim l E (d + 1) mX9_readRank g_c [tv_R 10, tv_R p1, tv_I a2, tv_I a3] D (rec 0 p1 a2 a3 D)) (hrec1 : ∀ (p1 : Nat) (a2 : Int), tv_isCode p1 → ∀ D : td_D, td_msim l E (d + 1) mX9_readOperand g_c [tv_R 10, tv_R p1, tv_I a2] D (rec 1 p1 a2 0 D)) : ∀ (n : Nat) (v1 : Nat) (v2 : Int) (v3 : Int) (v4 : Int) (v5 : Int) (D : td_D), tv_isCode v1 → td_sim l E (d + 2) mX9_readRank g_c 37 [tv_R 10, tv_R v1, tv_I v2, tv_I v3, tv_I v4, tv_I v5, tv_U] [] D (F_X9_readRank_37 rec n v1 v2 v3 v4 v5 D) := by
  intro n
  induction n with
  | zero => intros; exact tv_none
  | succ n ih =>
    intro v1 v2 v3 v4 v5 D hv1
    show td_sim _ _ _ _ _ _ _ _ _ (F_X9_readRank_37 rec (n + 1) v1 v2 v3 v4 v5 D)
    unfold F_X9_readRank_37
    refine ts_iload rfl dX9_readRank_37 ?_
    refine ts_iload rfl dX9_readRank_39 ?_
    refine td_icmp_ge (tgt := 100) rfl dX9_readRank_41 ?_ ?_
    · exact td_vret rfl dX9_readRank_100
    · refine ts_aload_n (i := 0) rfl rfl dX9_readRank_44 ?_
      refine td_getI tl_X9_22 rfl ga_c_10 rfl dX9_readRank_45 ?_
      refine td_if_ne (tgt := 100) rfl dX9_readRank_48 ?_ ?_
      · refine ts_aload_n (i := 0) rfl rfl dX9_readRank_51 ?_
        refine tq_callV (y2 := mX9_sign) [] [] 10 (st' := fun r1 => [tv_I r1]) tw_X9_sign tx_X9_sign tw_c9 ga_c_10 tl_X9_35 rfl rfl rfl rfl (fun _ => rfl) dX9_readRank_52 (S_X9_sign l hE _ D) (fun r1 D2 => ?_)
        refine tq_callS (y2 := mX9_rankOf) [tv_I r1] [] (st' := fun r3 => [tv_I r3]) tw_X9_rankOf tx_X9_rankOf tl_X9_55 rfl rfl rfl rfl (fun _ => rfl) dX9_readRank_55 (S_X9_rankOf l hE _ r1 D2) (fun r3 D4 => ?_)
        refine ts_iload_n (i := 2) rfl rfl dX9_readRank_58 ?_
        refine td_icmp_ne (tgt := 100) rfl dX9_readRank_59 ?_ ?_
        · refine ts_aload_n (i := 0) rfl rfl dX9_readRank_62 ?_
          refine tq_callV (y2 := mX9_sign) [] [] 10 (st' := fun r5 => [tv_I r5]) tw_X9_sign tx_X9_sign tw_c9 ga_c_10 tl_X9_35 rfl rfl rfl rfl (fun _ => rfl) dX9_readRank_63 (S_X9_sign l hE _ D4) (fun r5 D6 => ?_)
          refine tq_istore [tv_R 10, tv_R v1, tv_I v2, tv_I v3, tv_I v4, tv_I v5, tv_I r5] (Nat.le_of_ble_eq_true rfl) rfl rfl dX9_readRank_66 ?_
          refine ts_aload_n (i := 0) rfl rfl dX9_readRank_68 ?_
          refine ts_dupR dX9_readRank_69 ?_
          refine td_getI tl_X9_19 rfl ga_c_10 rfl dX9_readRank_70 ?_
          refine ts_iconst rfl dX9_readRank_73 ?_
          refine ts_iadd dX9_readRank_74 ?_
          refine td_putI tf_X9_19 (by intro h; cases h) rfl ga_c_10 rfl dX9_readRank_75 ?_
          refine td_let (fun D7 => ?_)
          refine ts_aload_n (i := 0) rfl rfl dX9_readRank_78 ?_
          refine ts_aload_n (i := 1) rfl rfl dX9_readRank_79 ?_
          refine ts_iload_n (i := 2) rfl rfl dX9_readRank_80 ?_
          refine ts_iconst rfl dX9_readRank_81 ?_
          refine ts_iadd dX9_readRank_82 ?_
          refine ts_iload_n (i := 3) rfl rfl dX9_readRank_83 ?_
          refine tq_callV (y2 := mX9_readRank) [tv_R v1, tv_I (tv_w (v2 + 1)), tv_I v3] [] 10 (st' := fun _ => []) tw_X9_readRank tx_X9_readRank tw_c9 ga_c_10 tl_X9_39 rfl rfl rfl rfl (fun _ => rfl) dX9_readRank_84 (hrec0 v1 (tv_w (v2 + 1)) v3 hv1 D7) (fun r8 D9 => ?_)
          refine ts_aload_n (i := 1) rfl rfl dX9_readRank_87 ?_
          refine ts_iload rfl dX9_readRank_88 ?_
          refine ts_iconst rfl dX9_readRank_90 ?_
          refine tq_callV (y2 := mX1_add) [tv_I r5, tv_I 0] [] v1 (st' := fun _ => []) tw_X1_add tx_X1_add tw_c1 hv1.1 tl_X9_43 rfl rfl rfl rfl (fun _ => rfl) dX9_readRank_91 (S_X1_add l hE _ v1 r5 0 hv1 D9) (fun r10 D11 => ?_)
          refine tq_iinc [tv_R 10, tv_R v1, tv_I v2, tv_I v3, tv_I v4, tv_I (tv_w (v5 + 1)), tv_I r5] rfl rfl rfl dX9_readRank_94 ?_
          refine ts_goto (tgt := 37) rfl dX9_readRank_97 ?_
          refine tv_weak (ls' := [tv_R 10, tv_R v1, tv_I v2, tv_I v3, tv_I v4, tv_I (tv_w (v5 + 1)), tv_U]) ⟨Or.inr rfl, Or.inr rfl, Or.inr rfl, Or.inr rfl, Or.inr rfl, Or.inr rfl, Or.inl rfl, trivial⟩ ?_
          exact ih v1 v2 v3 v4 (tv_w (v5 + 1)) D11 hv1
        · exact td_vret rfl dX9_readRank_100
      · exact td_vret rfl dX9_readRank_100
def B_X9_readRank (rec : Nat → Nat → Int → Int → td_D → Option (Int × td_D)) (p1 : Nat) (a2 : Int) (a3 : Int) (D : td_D) : Option (Int × td_D) :=
  if a2 < 5 then
    td_b (rec 0 p1 (tv_w (a2 + 1)) a3 D) fun _ D13 =>
    if a2 = 2 then
      F_X9_readRank_37 rec tf_N p1 a2 a3 1 0 D13
    else
      F_X9_readRank_37 rec tf_N p1 a2 a3 120 0 D13
  else
    td_b (rec 1 p1 a3 0 D) fun _ D15 =>
    some (0, D15)
set_option maxHeartbeats 4000000 in
set_option maxRecDepth 20000 in
theorem T_X9_readRank (l : Launch) {E : tv_E} (hE : tv_hE E) (d : Nat) (rec : Nat → Nat → Int → Int → td_D → Option (Int × td_D)) (hrec0 : ∀ (p1 : Nat) (a2 : Int) (a3 : Int), tv_isCode p1 → ∀ D : td_D, td_msim l E (d + 1) mX9_readRank g_c [tv_R 10, tv_R p1, tv_I a2, tv_I a3] D (rec 0 p1 a2 a3 D)) (hrec1 : ∀ (p1 : Nat) (a2 : Int), tv_isCode p1 → ∀ D : td_D, td_msim l E (d + 1) mX9_readOperand g_c [tv_R 10, tv_R p1, tv_I a2] D (rec 1 p1 a2 0 D)) (p1 : Nat) (a2 : Int) (a3 : Int) (hp1 : tv_isCode p1) (D : td_D) : td_msim l E (d + 2) mX9_readRank g_c [tv_R 10, tv_R p1, tv_I a2, tv_I a3] D (B_X9_readRank rec p1 a2 a3 D) := by
  refine td_meetL (ls := [tv_R 10, tv_R p1, tv_I a2, tv_I a3, tv_U, tv_U, tv_U]) rfl (Nat.le_of_ble_eq_true rfl) rfl ?_
  unfold B_X9_readRank
  refine ts_iload_n (i := 2) rfl rfl dX9_readRank_0 ?_
  refine ts_iconst rfl dX9_readRank_1 ?_
  refine td_icmp_lt (tgt := 12) rfl dX9_readRank_2 ?_ ?_
  · refine ts_aload_n (i := 0) rfl rfl dX9_readRank_12 ?_
    refine ts_aload_n (i := 1) rfl rfl dX9_readRank_13 ?_
    refine ts_iload_n (i := 2) rfl rfl dX9_readRank_14 ?_
    refine ts_iconst rfl dX9_readRank_15 ?_
    refine ts_iadd dX9_readRank_16 ?_
    refine ts_iload_n (i := 3) rfl rfl dX9_readRank_17 ?_
    refine tq_callV (y2 := mX9_readRank) [tv_R p1, tv_I (tv_w (a2 + 1)), tv_I a3] [] 10 (st' := fun _ => []) tw_X9_readRank tx_X9_readRank tw_c9 ga_c_10 tl_X9_39 rfl rfl rfl rfl (fun _ => rfl) dX9_readRank_18 (hrec0 p1 (tv_w (a2 + 1)) a3 hp1 D) (fun r12 D13 => ?_)
    refine ts_iload_n (i := 2) rfl rfl dX9_readRank_21 ?_
    refine ts_iconst rfl dX9_readRank_22 ?_
    refine td_icmp_ne (tgt := 30) rfl dX9_readRank_23 ?_ ?_
    · refine ts_iconst rfl dX9_readRank_26 ?_
      refine ts_goto (tgt := 32) rfl dX9_readRank_27 ?_
      refine tq_istore [tv_R 10, tv_R p1, tv_I a2, tv_I a3, tv_I 1, tv_U, tv_U] (Nat.le_of_ble_eq_true rfl) rfl rfl dX9_readRank_32 ?_
      refine ts_iconst rfl dX9_readRank_34 ?_
      refine tq_istore [tv_R 10, tv_R p1, tv_I a2, tv_I a3, tv_I 1, tv_I 0, tv_U] (Nat.le_of_ble_eq_true rfl) rfl rfl dX9_readRank_35 ?_
      exact S_X9_readRank_37 hE d rec hrec0 hrec1 tf_N p1 a2 a3 1 0 D13 hp1
    · refine ts_bipush rfl dX9_readRank_30 ?_
      refine tq_istore [tv_R 10, tv_R p1, tv_I a2, tv_I a3, tv_I 120, tv_U, tv_U] (Nat.le_of_ble_eq_true rfl) rfl rfl dX9_readRank_32 ?_
      refine ts_iconst rfl dX9_readRank_34 ?_
      refine tq_istore [tv_R 10, tv_R p1, tv_I a2, tv_I a3, tv_I 120, tv_I 0, tv_U] (Nat.le_of_ble_eq_true rfl) rfl rfl dX9_readRank_35 ?_
      exact S_X9_readRank_37 hE d rec hrec0 hrec1 tf_N p1 a2 a3 120 0 D13 hp1
  · refine ts_aload_n (i := 0) rfl rfl dX9_readRank_5 ?_
    refine ts_aload_n (i := 1) rfl rfl dX9_readRank_6 ?_
    refine ts_iload_n (i := 3) rfl rfl dX9_readRank_7 ?_
    refine tq_callV (y2 := mX9_readOperand) [tv_R p1, tv_I a3] [] 10 (st' := fun _ => []) tw_X9_readOperand tx_X9_readOperand tw_c9 ga_c_10 tl_X9_51 rfl rfl rfl rfl (fun _ => rfl) dX9_readRank_8 (hrec1 p1 a3 hp1 D) (fun r14 D15 => ?_)
    exact td_vret rfl dX9_readRank_11
def F_X9_readOperand_77 (rec : Nat → Nat → Int → Int → td_D → Option (Int × td_D)) (v1 : Nat) (v2 : Int) (v3 : Int) (D : td_D) : Option (Int × td_D) :=
  td_l (td_upd D 10 2 (tv_w ((D 10 2) + 1))) fun D1 =>
  td_b (rec 1 v1 (tv_w (v2 + 1)) 0 D1) fun _ D3 =>
  if v3 = 33 then
    td_b (F_X1_add v1 4 0 D3) fun _ D5 =>
    some (0, D5)
  else
    td_b (F_X1_add v1 3 0 D3) fun _ D7 =>
    some (0, D7)
set_option maxHeartbeats 4000000 in
set_option maxRecDepth 20000 in
theorem S_X9_readOperand_77 {l : Launch} {E : tv_E} (hE : tv_hE E) (d : Nat) (rec : Nat → Nat → Int → Int → td_D → Option (Int × td_D)) (hrec0 : ∀ (p1 : Nat) (a2 : Int) (a3 : Int), tv_isCode p1 → ∀ D : td_D, td_msim l E (d + 1) mX9_readRank g_c [tv_R 10, tv_R p1, tv_I a2, tv_I a3] D (rec 0 p1 a2 a3 D)) (hrec1 : ∀ (p1 : Nat) (a2 : Int), tv_isCode p1 → ∀ D : td_D, td_msim l E (d + 1) mX9_readOperand g_c [tv_R 10, tv_R p1, tv_I a2] D (rec 1 p1 a2 0 D)) (v1 : Nat) (v2 : Int) (v3 : Int) (hv1 : tv_isCode v1) (D : td_D) : td_sim l E (d + 2) mX9_readOperand g_c 77 [tv_R 10, tv_R v1, tv_I v2, tv_I v3, tv_U] [] D (F_X9_readOperand_77 rec v1 v2 v3 D) := by
  unfold F_X9_readOperand_77
  refine ts_aload_n (i := 0) rfl rfl dX9_readOperand_77 ?_
  refine ts_dupR dX9_readOperand_78 ?_
  refine td_getI tl_X9_19 rfl ga_c_10 rfl dX9_readOperand_79 ?_
  refine ts_iconst rfl dX9_readOperand_82 ?_
  refine ts_iadd dX9_readOperand_83 ?_
  refine td_putI tf_X9_19 (by intro h; cases h) rfl ga_c_10 rfl dX9_readOperand_84 ?_
  refine td_let (fun D1 => ?_)
  refine ts_aload_n (i := 0) rfl rfl dX9_readOperand_87 ?_
  refine ts_aload_n (i := 1) rfl rfl dX9_readOperand_88 ?_
  refine ts_iload_n (i := 2) rfl rfl dX9_readOperand_89 ?_
  refine ts_iconst rfl dX9_readOperand_90 ?_
  refine ts_iadd dX9_readOperand_91 ?_
  refine tq_callV (y2 := mX9_readOperand) [tv_R v1, tv_I (tv_w (v2 + 1))] [] 10 (st' := fun _ => []) tw_X9_readOperand tx_X9_readOperand tw_c9 ga_c_10 tl_X9_51 rfl rfl rfl rfl (fun _ => rfl) dX9_readOperand_92 (hrec1 v1 (tv_w (v2 + 1)) hv1 D1) (fun r2 D3 => ?_)
  refine ts_aload_n (i := 1) rfl rfl dX9_readOperand_95 ?_
  refine ts_iload_n (i := 3) rfl rfl dX9_readOperand_96 ?_
  refine ts_bipush rfl dX9_readOperand_97 ?_
  refine td_icmp_ne (tgt := 106) rfl dX9_readOperand_99 ?_ ?_
  · refine ts_iconst rfl dX9_readOperand_102 ?_
    refine ts_goto (tgt := 107) rfl dX9_readOperand_103 ?_
    refine ts_iconst rfl dX9_readOperand_107 ?_
    refine tq_callV (y2 := mX1_add) [tv_I 4, tv_I 0] [] v1 (st' := fun _ => []) tw_X1_add tx_X1_add tw_c1 hv1.1 tl_X9_43 rfl rfl rfl rfl (fun _ => rfl) dX9_readOperand_108 (S_X1_add l hE _ v1 4 0 hv1 D3) (fun r4 D5 => ?_)
    refine ts_goto (tgt := 151) rfl dX9_readOperand_111 ?_
    exact td_vret rfl dX9_readOperand_151
  · refine ts_iconst rfl dX9_readOperand_106 ?_
    refine ts_iconst rfl dX9_readOperand_107 ?_
    refine tq_callV (y2 := mX1_add) [tv_I 3, tv_I 0] [] v1 (st' := fun _ => []) tw_X1_add tx_X1_add tw_c1 hv1.1 tl_X9_43 rfl rfl rfl rfl (fun _ => rfl) dX9_readOperand_108 (S_X1_add l hE _ v1 3 0 hv1 D3) (fun r6 D7 => ?_)
    refine ts_goto (tgt := 151) rfl dX9_readOperand_111 ?_
    exact td_vret rfl dX9_readOperand_151
def B_X9_readOperand (rec : Nat → Nat → Int → Int → td_D → Option (Int × td_D)) (p1 : Nat) (a2 : Int) (D : td_D) : Option (Int × td_D) :=
  td_b (F_X9_sign D) fun r8 D9 =>
  td_b (F_X9_nameOf r8 D9) fun r10 D11 =>
  td_b (F_X9_isDigit r8 D11) fun r12 D13 =>
  if r12 = 0 then
    if r10 < 0 then
      if a2 < 6 then
        if r8 = 33 then
          F_X9_readOperand_77 rec p1 a2 r8 D13
        else
          if r8 = 45 then
            F_X9_readOperand_77 rec p1 a2 r8 D13
          else
            if r8 = 40 then
              td_l (td_upd D13 10 2 (tv_w ((D13 10 2) + 1))) fun D14 =>
              td_b (rec 0 p1 0 (tv_w (a2 + 1)) D14) fun _ D16 =>
              td_b (F_X9_readClosing D16) fun _ D18 =>
              some (0, D18)
            else
              td_l (td_upd D13 10 3 1) fun D19 =>
              some (0, D19)
      else
        td_l (td_upd D13 10 3 1) fun D20 =>
        some (0, D20)
    else
      td_l (td_upd D13 10 2 (tv_w ((D13 10 2) + 1))) fun D21 =>
      td_b (F_X1_add p1 2 r10 D21) fun _ D23 =>
      some (0, D23)
  else
    td_b (F_X9_readNumber p1 D13) fun _ D25 =>
    some (0, D25)
set_option maxHeartbeats 4000000 in
set_option maxRecDepth 20000 in
theorem T_X9_readOperand (l : Launch) {E : tv_E} (hE : tv_hE E) (d : Nat) (rec : Nat → Nat → Int → Int → td_D → Option (Int × td_D)) (hrec0 : ∀ (p1 : Nat) (a2 : Int) (a3 : Int), tv_isCode p1 → ∀ D : td_D, td_msim l E (d + 1) mX9_readRank g_c [tv_R 10, tv_R p1, tv_I a2, tv_I a3] D (rec 0 p1 a2 a3 D)) (hrec1 : ∀ (p1 : Nat) (a2 : Int), tv_isCode p1 → ∀ D : td_D, td_msim l E (d + 1) mX9_readOperand g_c [tv_R 10, tv_R p1, tv_I a2] D (rec 1 p1 a2 0 D)) (p1 : Nat) (a2 : Int) (hp1 : tv_isCode p1) (D : td_D) : td_msim l E (d + 2) mX9_readOperand g_c [tv_R 10, tv_R p1, tv_I a2] D (B_X9_readOperand rec p1 a2 D) := by
  refine td_meetL (ls := [tv_R 10, tv_R p1, tv_I a2, tv_U, tv_U]) rfl (Nat.le_of_ble_eq_true rfl) rfl ?_
  unfold B_X9_readOperand
  refine ts_aload_n (i := 0) rfl rfl dX9_readOperand_0 ?_
  refine tq_callV (y2 := mX9_sign) [] [] 10 (st' := fun r8 => [tv_I r8]) tw_X9_sign tx_X9_sign tw_c9 ga_c_10 tl_X9_35 rfl rfl rfl rfl (fun _ => rfl) dX9_readOperand_1 (S_X9_sign l hE _ D) (fun r8 D9 => ?_)
  refine tq_istore_n [tv_R 10, tv_R p1, tv_I a2, tv_I r8, tv_U] rfl (Nat.le_of_ble_eq_true rfl) rfl rfl dX9_readOperand_4 ?_
  refine ts_iload_n (i := 3) rfl rfl dX9_readOperand_5 ?_
  refine tq_callS (y2 := mX9_nameOf) [tv_I r8] [] (st' := fun r10 => [tv_I r10]) tw_X9_nameOf tx_X9_nameOf tl_X9_59 rfl rfl rfl rfl (fun _ => rfl) dX9_readOperand_6 (S_X9_nameOf l hE _ r8 D9) (fun r10 D11 => ?_)
  refine tq_istore [tv_R 10, tv_R p1, tv_I a2, tv_I r8, tv_I r10] (Nat.le_of_ble_eq_true rfl) rfl rfl dX9_readOperand_9 ?_
  refine ts_iload_n (i := 3) rfl rfl dX9_readOperand_11 ?_
  refine tq_callS (y2 := mX9_isDigit) [tv_I r8] [] (st' := fun r12 => [tv_I r12]) tw_X9_isDigit tx_X9_isDigit tl_X9_62 rfl rfl rfl rfl (fun _ => rfl) dX9_readOperand_12 (S_X9_isDigit l hE _ r8 D11) (fun r12 D13 => ?_)
  refine td_if_eq (tgt := 26) rfl dX9_readOperand_15 ?_ ?_
  · refine ts_iload rfl dX9_readOperand_26 ?_
    refine td_if_lt (tgt := 51) rfl dX9_readOperand_28 ?_ ?_
    · refine ts_iload_n (i := 2) rfl rfl dX9_readOperand_51 ?_
      refine ts_bipush rfl dX9_readOperand_52 ?_
      refine td_icmp_lt (tgt := 65) rfl dX9_readOperand_54 ?_ ?_
      · refine ts_iload_n (i := 3) rfl rfl dX9_readOperand_65 ?_
        refine ts_bipush rfl dX9_readOperand_66 ?_
        refine td_icmp_eq (tgt := 77) rfl dX9_readOperand_68 ?_ ?_
        · refine tv_weak (ls' := [tv_R 10, tv_R p1, tv_I a2, tv_I r8, tv_U]) ⟨Or.inr rfl, Or.inr rfl, Or.inr rfl, Or.inr rfl, Or.inl rfl, trivial⟩ ?_
          exact S_X9_readOperand_77 hE d rec hrec0 hrec1 p1 a2 r8 hp1 D13
        · refine ts_iload_n (i := 3) rfl rfl dX9_readOperand_71 ?_
          refine ts_bipush rfl dX9_readOperand_72 ?_
          refine td_icmp_ne (tgt := 114) rfl dX9_readOperand_74 ?_ ?_
          · refine tv_weak (ls' := [tv_R 10, tv_R p1, tv_I a2, tv_I r8, tv_U]) ⟨Or.inr rfl, Or.inr rfl, Or.inr rfl, Or.inr rfl, Or.inl rfl, trivial⟩ ?_
            exact S_X9_readOperand_77 hE d rec hrec0 hrec1 p1 a2 r8 hp1 D13
          · refine ts_iload_n (i := 3) rfl rfl dX9_readOperand_114 ?_
            refine ts_bipush rfl dX9_readOperand_115 ?_
            refine td_icmp_ne (tgt := 146) rfl dX9_readOperand_117 ?_ ?_
            · refine ts_aload_n (i := 0) rfl rfl dX9_readOperand_120 ?_
              refine ts_dupR dX9_readOperand_121 ?_
              refine td_getI tl_X9_19 rfl ga_c_10 rfl dX9_readOperand_122 ?_
              refine ts_iconst rfl dX9_readOperand_125 ?_
              refine ts_iadd dX9_readOperand_126 ?_
              refine td_putI tf_X9_19 (by intro h; cases h) rfl ga_c_10 rfl dX9_readOperand_127 ?_
              refine td_let (fun D14 => ?_)
              refine ts_aload_n (i := 0) rfl rfl dX9_readOperand_130 ?_
              refine ts_aload_n (i := 1) rfl rfl dX9_readOperand_131 ?_
              refine ts_iconst rfl dX9_readOperand_132 ?_
              refine ts_iload_n (i := 2) rfl rfl dX9_readOperand_133 ?_
              refine ts_iconst rfl dX9_readOperand_134 ?_
              refine ts_iadd dX9_readOperand_135 ?_
              refine tq_callV (y2 := mX9_readRank) [tv_R p1, tv_I 0, tv_I (tv_w (a2 + 1))] [] 10 (st' := fun _ => []) tw_X9_readRank tx_X9_readRank tw_c9 ga_c_10 tl_X9_39 rfl rfl rfl rfl (fun _ => rfl) dX9_readOperand_136 (hrec0 p1 0 (tv_w (a2 + 1)) hp1 D14) (fun r15 D16 => ?_)
              refine ts_aload_n (i := 0) rfl rfl dX9_readOperand_139 ?_
              refine tq_callV (y2 := mX9_readClosing) [] [] 10 (st' := fun _ => []) tw_X9_readClosing tx_X9_readClosing tw_c9 ga_c_10 tl_X9_69 rfl rfl rfl rfl (fun _ => rfl) dX9_readOperand_140 (S_X9_readClosing l hE _ D16) (fun r17 D18 => ?_)
              refine ts_goto (tgt := 151) rfl dX9_readOperand_143 ?_
              exact td_vret rfl dX9_readOperand_151
            · refine ts_aload_n (i := 0) rfl rfl dX9_readOperand_146 ?_
              refine ts_iconst rfl dX9_readOperand_147 ?_
              refine td_putZ tf_X9_22 (by intro h; cases h) rfl ga_c_10 rfl (Or.inr rfl) dX9_readOperand_148 ?_
              refine td_let (fun D19 => ?_)
              exact td_vret rfl dX9_readOperand_151
      · refine ts_aload_n (i := 0) rfl rfl dX9_readOperand_57 ?_
        refine ts_iconst rfl dX9_readOperand_58 ?_
        refine td_putZ tf_X9_22 (by intro h; cases h) rfl ga_c_10 rfl (Or.inr rfl) dX9_readOperand_59 ?_
        refine td_let (fun D20 => ?_)
        refine ts_goto (tgt := 151) rfl dX9_readOperand_62 ?_
        exact td_vret rfl dX9_readOperand_151
    · refine ts_aload_n (i := 0) rfl rfl dX9_readOperand_31 ?_
      refine ts_dupR dX9_readOperand_32 ?_
      refine td_getI tl_X9_19 rfl ga_c_10 rfl dX9_readOperand_33 ?_
      refine ts_iconst rfl dX9_readOperand_36 ?_
      refine ts_iadd dX9_readOperand_37 ?_
      refine td_putI tf_X9_19 (by intro h; cases h) rfl ga_c_10 rfl dX9_readOperand_38 ?_
      refine td_let (fun D21 => ?_)
      refine ts_aload_n (i := 1) rfl rfl dX9_readOperand_41 ?_
      refine ts_iconst rfl dX9_readOperand_42 ?_
      refine ts_iload rfl dX9_readOperand_43 ?_
      refine tq_callV (y2 := mX1_add) [tv_I 2, tv_I r10] [] p1 (st' := fun _ => []) tw_X1_add tx_X1_add tw_c1 hp1.1 tl_X9_43 rfl rfl rfl rfl (fun _ => rfl) dX9_readOperand_45 (S_X1_add l hE _ p1 2 r10 hp1 D21) (fun r22 D23 => ?_)
      refine ts_goto (tgt := 151) rfl dX9_readOperand_48 ?_
      exact td_vret rfl dX9_readOperand_151
  · refine ts_aload_n (i := 0) rfl rfl dX9_readOperand_18 ?_
    refine ts_aload_n (i := 1) rfl rfl dX9_readOperand_19 ?_
    refine tq_callV (y2 := mX9_readNumber) [tv_R p1] [] 10 (st' := fun _ => []) tw_X9_readNumber tx_X9_readNumber tw_c9 ga_c_10 tl_X9_66 rfl rfl rfl rfl (fun _ => rfl) dX9_readOperand_20 (S_X9_readNumber l hE _ p1 hp1 D13) (fun r24 D25 => ?_)
    refine ts_goto (tgt := 151) rfl dX9_readOperand_23 ?_
    exact td_vret rfl dX9_readOperand_151
def F_tp : Nat → Nat → Nat → Int → Int → td_D → Option (Int × td_D)
  | 0, _, _, _, _, _ => none
  | n + 1, t, b0, b1, b2, D => if t = 0 then B_X9_readRank (F_tp n) b0 b1 b2 D else B_X9_readOperand (F_tp n) b0 b1 D
set_option maxRecDepth 20000 in
theorem S_tp (l : Launch) {E : tv_E} (hE : tv_hE E) (d : Nat) : ∀ n : Nat, (∀ (p1 : Nat) (a2 : Int) (a3 : Int) (_ : tv_isCode p1) (D : td_D), td_msim l E (d + n + 1) mX9_readRank g_c [tv_R 10, tv_R p1, tv_I a2, tv_I a3] D (F_tp n 0 p1 a2 a3 D)) ∧ (∀ (p1 : Nat) (a2 : Int) (_ : tv_isCode p1) (D : td_D), td_msim l E (d + n + 1) mX9_readOperand g_c [tv_R 10, tv_R p1, tv_I a2] D (F_tp n 1 p1 a2 0 D)) := by
  intro n
  induction n with
  | zero => exact ⟨(by intros; intro r M hx; cases hx), (by intros; intro r M hx; cases hx)⟩
  | succ n ih =>
    obtain ⟨i0, i1⟩ := ih
    refine ⟨?_, ?_⟩
    · intro p1 a2 a3 hp1 D
      exact T_X9_readRank l hE (d + n) (F_tp n) i0 i1 p1 a2 a3 hp1 D
    · intro p1 a2 hp1 D
      exact T_X9_readOperand l hE (d + n) (F_tp n) i0 i1 p1 a2 hp1 D
def F_X9_readRank (p1 : Nat) (a2 : Int) (a3 : Int) (D : td_D) : Option (Int × td_D) := F_tp 100 0 p1 a2 a3 D
theorem S_X9_readRank (l : Launch) {E : tv_E} (hE : tv_hE E) (d : Nat) (p1 : Nat) (a2 : Int) (a3 : Int) (hp1 : tv_isCode p1) (D : td_D) : td_msim l E (d + 101) mX9_readRank g_c [tv_R 10, tv_R p1, tv_I a2, tv_I a3] D (F_X9_readRank p1 a2 a3 D) := (S_tp l hE d 100).1 p1 a2 a3 hp1 D
def F_X9_readOperand (p1 : Nat) (a2 : Int) (D : td_D) : Option (Int × td_D) := F_tp 100 1 p1 a2 0 D
theorem S_X9_readOperand (l : Launch) {E : tv_E} (hE : tv_hE E) (d : Nat) (p1 : Nat) (a2 : Int) (hp1 : tv_isCode p1) (D : td_D) : td_msim l E (d + 101) mX9_readOperand g_c [tv_R 10, tv_R p1, tv_I a2] D (F_X9_readOperand p1 a2 D) := (S_tp l hE d 100).2 p1 a2 hp1 D
def F_X12_either_4 (rec : Nat → td_D → Option (Int × td_D)) : Nat → td_D → Option (Int × td_D)
  | 0, _ => none
  | n + 1, D =>
    if 0 ≤ D 1 20 then
      some (0, D)
    else
      td_b (F_X12_look D) fun r1 D2 =>
      if r1 = 124 then
        td_l (td_upd D2 1 19 (tv_w ((D2 1 19) + 1))) fun D3 =>
        td_b (rec 1 D3) fun _ D5 =>
        td_b (F_X12_addStep 124 0 D5) fun _ D7 =>
        F_X12_either_4 rec n D7
      else
        some (0, D2)
set_option maxHeartbeats 4000000 in
set_option maxRecDepth 20000 in
theorem S_X12_either_4 {l : Launch} {E : tv_E} (hE : tv_hE E) (d : Nat) (rec : Nat → td_D → Option (Int × td_D)) (hrec0 : ∀ D : td_D, td_msim l E (d + 1) mX12_either g_m [tv_R 1] D (rec 0 D)) (hrec1 : ∀ D : td_D, td_msim l E (d + 1) mX12_both g_m [tv_R 1] D (rec 1 D)) (hrec2 : ∀ D : td_D, td_msim l E (d + 1) mX12_compared g_m [tv_R 1] D (rec 2 D)) (hrec3 : ∀ D : td_D, td_msim l E (d + 1) mX12_sum g_m [tv_R 1] D (rec 3 D)) (hrec4 : ∀ D : td_D, td_msim l E (d + 1) mX12_product g_m [tv_R 1] D (rec 4 D)) (hrec5 : ∀ D : td_D, td_msim l E (d + 1) mX12_operand g_m [tv_R 1] D (rec 5 D)) : ∀ (n : Nat) (D : td_D), td_sim l E (d + 2) mX12_either g_m 4 [tv_R 1] [] D (F_X12_either_4 rec n D) := by
  intro n
  induction n with
  | zero => intros; exact tv_none
  | succ n ih =>
    intro D
    show td_sim _ _ _ _ _ _ _ _ _ (F_X12_either_4 rec (n + 1) D)
    unfold F_X12_either_4
    refine ts_aload_n (i := 0) rfl rfl dX12_either_4 ?_
    refine td_getI tl_X12_212 rfl ga_m_1 rfl dX12_either_5 ?_
    refine td_if_ge (tgt := 44) rfl dX12_either_8 ?_ ?_
    · exact td_vret rfl dX12_either_44
    · refine ts_aload_n (i := 0) rfl rfl dX12_either_11 ?_
      refine tq_callV (y2 := mX12_look) [] [] 1 (st' := fun r1 => [tv_I r1]) tw_X12_look tx_X12_look tw_c12 ga_m_1 tl_X12_224 rfl rfl rfl rfl (fun _ => rfl) dX12_either_12 (S_X12_look l hE _ D) (fun r1 D2 => ?_)
      refine ts_bipush rfl dX12_either_15 ?_
      refine td_icmp_ne (tgt := 44) rfl dX12_either_17 ?_ ?_
      · refine ts_aload_n (i := 0) rfl rfl dX12_either_20 ?_
        refine ts_dupR dX12_either_21 ?_
        refine td_getI tl_X12_209 rfl ga_m_1 rfl dX12_either_22 ?_
        refine ts_iconst rfl dX12_either_25 ?_
        refine ts_iadd dX12_either_26 ?_
        refine td_putI tf_X12_209 (by intro h; cases h) rfl ga_m_1 rfl dX12_either_27 ?_
        refine td_let (fun D3 => ?_)
        refine ts_aload_n (i := 0) rfl rfl dX12_either_30 ?_
        refine tq_callV (y2 := mX12_both) [] [] 1 (st' := fun _ => []) tw_X12_both tx_X12_both tw_c12 ga_m_1 tl_X12_258 rfl rfl rfl rfl (fun _ => rfl) dX12_either_31 (hrec1 D3) (fun r4 D5 => ?_)
        refine ts_aload_n (i := 0) rfl rfl dX12_either_34 ?_
        refine ts_bipush rfl dX12_either_35 ?_
        refine ts_iconst rfl dX12_either_37 ?_
        refine tq_callV (y2 := mX12_addStep) [tv_I 124, tv_I 0] [] 1 (st' := fun _ => []) tw_X12_addStep tx_X12_addStep tw_c12 ga_m_1 tl_X12_228 rfl rfl rfl rfl (fun _ => rfl) dX12_either_38 (S_X12_addStep l hE _ 124 0 D5) (fun r6 D7 => ?_)
        refine ts_goto (tgt := 4) rfl dX12_either_41 ?_
        exact ih D7
      · exact td_vret rfl dX12_either_44
def B_X12_either (rec : Nat → td_D → Option (Int × td_D)) (D : td_D) : Option (Int × td_D) :=
  td_b (rec 1 D) fun _ D9 =>
  F_X12_either_4 rec tf_N D9
set_option maxHeartbeats 4000000 in
set_option maxRecDepth 20000 in
theorem T_X12_either (l : Launch) {E : tv_E} (hE : tv_hE E) (d : Nat) (rec : Nat → td_D → Option (Int × td_D)) (hrec0 : ∀ D : td_D, td_msim l E (d + 1) mX12_either g_m [tv_R 1] D (rec 0 D)) (hrec1 : ∀ D : td_D, td_msim l E (d + 1) mX12_both g_m [tv_R 1] D (rec 1 D)) (hrec2 : ∀ D : td_D, td_msim l E (d + 1) mX12_compared g_m [tv_R 1] D (rec 2 D)) (hrec3 : ∀ D : td_D, td_msim l E (d + 1) mX12_sum g_m [tv_R 1] D (rec 3 D)) (hrec4 : ∀ D : td_D, td_msim l E (d + 1) mX12_product g_m [tv_R 1] D (rec 4 D)) (hrec5 : ∀ D : td_D, td_msim l E (d + 1) mX12_operand g_m [tv_R 1] D (rec 5 D)) (D : td_D) : td_msim l E (d + 2) mX12_either g_m [tv_R 1] D (B_X12_either rec D) := by
  refine td_meetL (ls := [tv_R 1]) rfl (Nat.le_of_ble_eq_true rfl) rfl ?_
  unfold B_X12_either
  refine ts_aload_n (i := 0) rfl rfl dX12_either_0 ?_
  refine tq_callV (y2 := mX12_both) [] [] 1 (st' := fun _ => []) tw_X12_both tx_X12_both tw_c12 ga_m_1 tl_X12_258 rfl rfl rfl rfl (fun _ => rfl) dX12_either_1 (hrec1 D) (fun r8 D9 => ?_)
  exact S_X12_either_4 hE d rec hrec0 hrec1 hrec2 hrec3 hrec4 hrec5 tf_N D9
def F_X12_both_4 (rec : Nat → td_D → Option (Int × td_D)) : Nat → td_D → Option (Int × td_D)
  | 0, _ => none
  | n + 1, D =>
    if 0 ≤ D 1 20 then
      some (0, D)
    else
      td_b (F_X12_look D) fun r1 D2 =>
      if r1 = 38 then
        td_l (td_upd D2 1 19 (tv_w ((D2 1 19) + 1))) fun D3 =>
        td_b (rec 2 D3) fun _ D5 =>
        td_b (F_X12_addStep 38 0 D5) fun _ D7 =>
        F_X12_both_4 rec n D7
      else
        some (0, D2)
set_option maxHeartbeats 4000000 in
set_option maxRecDepth 20000 in
theorem S_X12_both_4 {l : Launch} {E : tv_E} (hE : tv_hE E) (d : Nat) (rec : Nat → td_D → Option (Int × td_D)) (hrec0 : ∀ D : td_D, td_msim l E (d + 1) mX12_either g_m [tv_R 1] D (rec 0 D)) (hrec1 : ∀ D : td_D, td_msim l E (d + 1) mX12_both g_m [tv_R 1] D (rec 1 D)) (hrec2 : ∀ D : td_D, td_msim l E (d + 1) mX12_compared g_m [tv_R 1] D (rec 2 D)) (hrec3 : ∀ D : td_D, td_msim l E (d + 1) mX12_sum g_m [tv_R 1] D (rec 3 D)) (hrec4 : ∀ D : td_D, td_msim l E (d + 1) mX12_product g_m [tv_R 1] D (rec 4 D)) (hrec5 : ∀ D : td_D, td_msim l E (d + 1) mX12_operand g_m [tv_R 1] D (rec 5 D)) : ∀ (n : Nat) (D : td_D), td_sim l E (d + 2) mX12_both g_m 4 [tv_R 1] [] D (F_X12_both_4 rec n D) := by
  intro n
  induction n with
  | zero => intros; exact tv_none
  | succ n ih =>
    intro D
    show td_sim _ _ _ _ _ _ _ _ _ (F_X12_both_4 rec (n + 1) D)
    unfold F_X12_both_4
    refine ts_aload_n (i := 0) rfl rfl dX12_both_4 ?_
    refine td_getI tl_X12_212 rfl ga_m_1 rfl dX12_both_5 ?_
    refine td_if_ge (tgt := 44) rfl dX12_both_8 ?_ ?_
    · exact td_vret rfl dX12_both_44
    · refine ts_aload_n (i := 0) rfl rfl dX12_both_11 ?_
      refine tq_callV (y2 := mX12_look) [] [] 1 (st' := fun r1 => [tv_I r1]) tw_X12_look tx_X12_look tw_c12 ga_m_1 tl_X12_224 rfl rfl rfl rfl (fun _ => rfl) dX12_both_12 (S_X12_look l hE _ D) (fun r1 D2 => ?_)
      refine ts_bipush rfl dX12_both_15 ?_
      refine td_icmp_ne (tgt := 44) rfl dX12_both_17 ?_ ?_
      · refine ts_aload_n (i := 0) rfl rfl dX12_both_20 ?_
        refine ts_dupR dX12_both_21 ?_
        refine td_getI tl_X12_209 rfl ga_m_1 rfl dX12_both_22 ?_
        refine ts_iconst rfl dX12_both_25 ?_
        refine ts_iadd dX12_both_26 ?_
        refine td_putI tf_X12_209 (by intro h; cases h) rfl ga_m_1 rfl dX12_both_27 ?_
        refine td_let (fun D3 => ?_)
        refine ts_aload_n (i := 0) rfl rfl dX12_both_30 ?_
        refine tq_callV (y2 := mX12_compared) [] [] 1 (st' := fun _ => []) tw_X12_compared tx_X12_compared tw_c12 ga_m_1 tl_X12_255 rfl rfl rfl rfl (fun _ => rfl) dX12_both_31 (hrec2 D3) (fun r4 D5 => ?_)
        refine ts_aload_n (i := 0) rfl rfl dX12_both_34 ?_
        refine ts_bipush rfl dX12_both_35 ?_
        refine ts_iconst rfl dX12_both_37 ?_
        refine tq_callV (y2 := mX12_addStep) [tv_I 38, tv_I 0] [] 1 (st' := fun _ => []) tw_X12_addStep tx_X12_addStep tw_c12 ga_m_1 tl_X12_228 rfl rfl rfl rfl (fun _ => rfl) dX12_both_38 (S_X12_addStep l hE _ 38 0 D5) (fun r6 D7 => ?_)
        refine ts_goto (tgt := 4) rfl dX12_both_41 ?_
        exact ih D7
      · exact td_vret rfl dX12_both_44
def B_X12_both (rec : Nat → td_D → Option (Int × td_D)) (D : td_D) : Option (Int × td_D) :=
  td_b (rec 2 D) fun _ D9 =>
  F_X12_both_4 rec tf_N D9
set_option maxHeartbeats 4000000 in
set_option maxRecDepth 20000 in
theorem T_X12_both (l : Launch) {E : tv_E} (hE : tv_hE E) (d : Nat) (rec : Nat → td_D → Option (Int × td_D)) (hrec0 : ∀ D : td_D, td_msim l E (d + 1) mX12_either g_m [tv_R 1] D (rec 0 D)) (hrec1 : ∀ D : td_D, td_msim l E (d + 1) mX12_both g_m [tv_R 1] D (rec 1 D)) (hrec2 : ∀ D : td_D, td_msim l E (d + 1) mX12_compared g_m [tv_R 1] D (rec 2 D)) (hrec3 : ∀ D : td_D, td_msim l E (d + 1) mX12_sum g_m [tv_R 1] D (rec 3 D)) (hrec4 : ∀ D : td_D, td_msim l E (d + 1) mX12_product g_m [tv_R 1] D (rec 4 D)) (hrec5 : ∀ D : td_D, td_msim l E (d + 1) mX12_operand g_m [tv_R 1] D (rec 5 D)) (D : td_D) : td_msim l E (d + 2) mX12_both g_m [tv_R 1] D (B_X12_both rec D) := by
  refine td_meetL (ls := [tv_R 1]) rfl (Nat.le_of_ble_eq_true rfl) rfl ?_
  unfold B_X12_both
  refine ts_aload_n (i := 0) rfl rfl dX12_both_0 ?_
  refine tq_callV (y2 := mX12_compared) [] [] 1 (st' := fun _ => []) tw_X12_compared tx_X12_compared tw_c12 ga_m_1 tl_X12_255 rfl rfl rfl rfl (fun _ => rfl) dX12_both_1 (hrec2 D) (fun r8 D9 => ?_)
  exact S_X12_both_4 hE d rec hrec0 hrec1 hrec2 hrec3 hrec4 hrec5 tf_N D9
def F_X12_compared_35 (rec : Nat → td_D → Option (Int × td_D)) (v1 : Int) (D : td_D) : Option (Int × td_D) :=
  td_l (td_upd D 1 19 (tv_w ((D 1 19) + 1))) fun D1 =>
  td_b (rec 3 D1) fun _ D3 =>
  td_b (F_X12_addStep v1 0 D3) fun _ D5 =>
  some (0, D5)
set_option maxHeartbeats 4000000 in
set_option maxRecDepth 20000 in
theorem S_X12_compared_35 {l : Launch} {E : tv_E} (hE : tv_hE E) (d : Nat) (rec : Nat → td_D → Option (Int × td_D)) (hrec0 : ∀ D : td_D, td_msim l E (d + 1) mX12_either g_m [tv_R 1] D (rec 0 D)) (hrec1 : ∀ D : td_D, td_msim l E (d + 1) mX12_both g_m [tv_R 1] D (rec 1 D)) (hrec2 : ∀ D : td_D, td_msim l E (d + 1) mX12_compared g_m [tv_R 1] D (rec 2 D)) (hrec3 : ∀ D : td_D, td_msim l E (d + 1) mX12_sum g_m [tv_R 1] D (rec 3 D)) (hrec4 : ∀ D : td_D, td_msim l E (d + 1) mX12_product g_m [tv_R 1] D (rec 4 D)) (hrec5 : ∀ D : td_D, td_msim l E (d + 1) mX12_operand g_m [tv_R 1] D (rec 5 D)) (v1 : Int) (D : td_D) : td_sim l E (d + 2) mX12_compared g_m 35 [tv_R 1, tv_I v1] [] D (F_X12_compared_35 rec v1 D) := by
  unfold F_X12_compared_35
  refine ts_aload_n (i := 0) rfl rfl dX12_compared_35 ?_
  refine ts_dupR dX12_compared_36 ?_
  refine td_getI tl_X12_209 rfl ga_m_1 rfl dX12_compared_37 ?_
  refine ts_iconst rfl dX12_compared_40 ?_
  refine ts_iadd dX12_compared_41 ?_
  refine td_putI tf_X12_209 (by intro h; cases h) rfl ga_m_1 rfl dX12_compared_42 ?_
  refine td_let (fun D1 => ?_)
  refine ts_aload_n (i := 0) rfl rfl dX12_compared_45 ?_
  refine tq_callV (y2 := mX12_sum) [] [] 1 (st' := fun _ => []) tw_X12_sum tx_X12_sum tw_c12 ga_m_1 tl_X12_252 rfl rfl rfl rfl (fun _ => rfl) dX12_compared_46 (hrec3 D1) (fun r2 D3 => ?_)
  refine ts_aload_n (i := 0) rfl rfl dX12_compared_49 ?_
  refine ts_iload_n (i := 1) rfl rfl dX12_compared_50 ?_
  refine ts_iconst rfl dX12_compared_51 ?_
  refine tq_callV (y2 := mX12_addStep) [tv_I v1, tv_I 0] [] 1 (st' := fun _ => []) tw_X12_addStep tx_X12_addStep tw_c12 ga_m_1 tl_X12_228 rfl rfl rfl rfl (fun _ => rfl) dX12_compared_52 (S_X12_addStep l hE _ v1 0 D3) (fun r4 D5 => ?_)
  exact td_vret rfl dX12_compared_55
def B_X12_compared (rec : Nat → td_D → Option (Int × td_D)) (D : td_D) : Option (Int × td_D) :=
  td_b (rec 3 D) fun _ D7 =>
  td_b (F_X12_look D7) fun r8 D9 =>
  if 0 ≤ D9 1 20 then
    some (0, D9)
  else
    if r8 = 60 then
      F_X12_compared_35 rec r8 D9
    else
      if r8 = 61 then
        F_X12_compared_35 rec r8 D9
      else
        if r8 = 62 then
          F_X12_compared_35 rec r8 D9
        else
          some (0, D9)
set_option maxHeartbeats 4000000 in
set_option maxRecDepth 20000 in
theorem T_X12_compared (l : Launch) {E : tv_E} (hE : tv_hE E) (d : Nat) (rec : Nat → td_D → Option (Int × td_D)) (hrec0 : ∀ D : td_D, td_msim l E (d + 1) mX12_either g_m [tv_R 1] D (rec 0 D)) (hrec1 : ∀ D : td_D, td_msim l E (d + 1) mX12_both g_m [tv_R 1] D (rec 1 D)) (hrec2 : ∀ D : td_D, td_msim l E (d + 1) mX12_compared g_m [tv_R 1] D (rec 2 D)) (hrec3 : ∀ D : td_D, td_msim l E (d + 1) mX12_sum g_m [tv_R 1] D (rec 3 D)) (hrec4 : ∀ D : td_D, td_msim l E (d + 1) mX12_product g_m [tv_R 1] D (rec 4 D)) (hrec5 : ∀ D : td_D, td_msim l E (d + 1) mX12_operand g_m [tv_R 1] D (rec 5 D)) (D : td_D) : td_msim l E (d + 2) mX12_compared g_m [tv_R 1] D (B_X12_compared rec D) := by
  refine td_meetL (ls := [tv_R 1, tv_U]) rfl (Nat.le_of_ble_eq_true rfl) rfl ?_
  unfold B_X12_compared
  refine ts_aload_n (i := 0) rfl rfl dX12_compared_0 ?_
  refine tq_callV (y2 := mX12_sum) [] [] 1 (st' := fun _ => []) tw_X12_sum tx_X12_sum tw_c12 ga_m_1 tl_X12_252 rfl rfl rfl rfl (fun _ => rfl) dX12_compared_1 (hrec3 D) (fun r6 D7 => ?_)
  refine ts_aload_n (i := 0) rfl rfl dX12_compared_4 ?_
  refine tq_callV (y2 := mX12_look) [] [] 1 (st' := fun r8 => [tv_I r8]) tw_X12_look tx_X12_look tw_c12 ga_m_1 tl_X12_224 rfl rfl rfl rfl (fun _ => rfl) dX12_compared_5 (S_X12_look l hE _ D7) (fun r8 D9 => ?_)
  refine tq_istore_n [tv_R 1, tv_I r8] rfl (Nat.le_of_ble_eq_true rfl) rfl rfl dX12_compared_8 ?_
  refine ts_aload_n (i := 0) rfl rfl dX12_compared_9 ?_
  refine td_getI tl_X12_212 rfl ga_m_1 rfl dX12_compared_10 ?_
  refine td_if_ge (tgt := 34) rfl dX12_compared_13 ?_ ?_
  · exact td_vret rfl dX12_compared_34
  · refine ts_iload_n (i := 1) rfl rfl dX12_compared_16 ?_
    refine ts_bipush rfl dX12_compared_17 ?_
    refine td_icmp_eq (tgt := 35) rfl dX12_compared_19 ?_ ?_
    · exact S_X12_compared_35 hE d rec hrec0 hrec1 hrec2 hrec3 hrec4 hrec5 r8 D9
    · refine ts_iload_n (i := 1) rfl rfl dX12_compared_22 ?_
      refine ts_bipush rfl dX12_compared_23 ?_
      refine td_icmp_eq (tgt := 35) rfl dX12_compared_25 ?_ ?_
      · exact S_X12_compared_35 hE d rec hrec0 hrec1 hrec2 hrec3 hrec4 hrec5 r8 D9
      · refine ts_iload_n (i := 1) rfl rfl dX12_compared_28 ?_
        refine ts_bipush rfl dX12_compared_29 ?_
        refine td_icmp_eq (tgt := 35) rfl dX12_compared_31 ?_ ?_
        · exact S_X12_compared_35 hE d rec hrec0 hrec1 hrec2 hrec3 hrec4 hrec5 r8 D9
        · exact td_vret rfl dX12_compared_34
def F_X12_sum_29 (rec : Nat → td_D → Option (Int × td_D)) (k4 : td_D → Option (Int × td_D)) (D : td_D) : Option (Int × td_D) :=
  td_b (F_X12_look D) fun r1 D2 =>
  td_l (td_upd D2 1 19 (tv_w ((D2 1 19) + 1))) fun D3 =>
  td_b (rec 4 D3) fun _ D5 =>
  td_b (F_X12_addStep r1 0 D5) fun _ D7 =>
  k4 D7
set_option maxHeartbeats 4000000 in
set_option maxRecDepth 20000 in
theorem S_X12_sum_29 {l : Launch} {E : tv_E} (hE : tv_hE E) (d : Nat) (rec : Nat → td_D → Option (Int × td_D)) (k4 : td_D → Option (Int × td_D)) (hrec0 : ∀ D : td_D, td_msim l E (d + 1) mX12_either g_m [tv_R 1] D (rec 0 D)) (hrec1 : ∀ D : td_D, td_msim l E (d + 1) mX12_both g_m [tv_R 1] D (rec 1 D)) (hrec2 : ∀ D : td_D, td_msim l E (d + 1) mX12_compared g_m [tv_R 1] D (rec 2 D)) (hrec3 : ∀ D : td_D, td_msim l E (d + 1) mX12_sum g_m [tv_R 1] D (rec 3 D)) (hrec4 : ∀ D : td_D, td_msim l E (d + 1) mX12_product g_m [tv_R 1] D (rec 4 D)) (hrec5 : ∀ D : td_D, td_msim l E (d + 1) mX12_operand g_m [tv_R 1] D (rec 5 D)) (hk4 : ∀ (D : td_D), td_sim l E (d + 2) mX12_sum g_m 4 [tv_R 1, tv_U] [] D (k4 D)) (D : td_D) : td_sim l E (d + 2) mX12_sum g_m 29 [tv_R 1, tv_U] [] D (F_X12_sum_29 rec k4 D) := by
  unfold F_X12_sum_29
  refine ts_aload_n (i := 0) rfl rfl dX12_sum_29 ?_
  refine tq_callV (y2 := mX12_look) [] [] 1 (st' := fun r1 => [tv_I r1]) tw_X12_look tx_X12_look tw_c12 ga_m_1 tl_X12_224 rfl rfl rfl rfl (fun _ => rfl) dX12_sum_30 (S_X12_look l hE _ D) (fun r1 D2 => ?_)
  refine tq_istore_n [tv_R 1, tv_I r1] rfl (Nat.le_of_ble_eq_true rfl) rfl rfl dX12_sum_33 ?_
  refine ts_aload_n (i := 0) rfl rfl dX12_sum_34 ?_
  refine ts_dupR dX12_sum_35 ?_
  refine td_getI tl_X12_209 rfl ga_m_1 rfl dX12_sum_36 ?_
  refine ts_iconst rfl dX12_sum_39 ?_
  refine ts_iadd dX12_sum_40 ?_
  refine td_putI tf_X12_209 (by intro h; cases h) rfl ga_m_1 rfl dX12_sum_41 ?_
  refine td_let (fun D3 => ?_)
  refine ts_aload_n (i := 0) rfl rfl dX12_sum_44 ?_
  refine tq_callV (y2 := mX12_product) [] [] 1 (st' := fun _ => []) tw_X12_product tx_X12_product tw_c12 ga_m_1 tl_X12_249 rfl rfl rfl rfl (fun _ => rfl) dX12_sum_45 (hrec4 D3) (fun r4 D5 => ?_)
  refine ts_aload_n (i := 0) rfl rfl dX12_sum_48 ?_
  refine ts_iload_n (i := 1) rfl rfl dX12_sum_49 ?_
  refine ts_iconst rfl dX12_sum_50 ?_
  refine tq_callV (y2 := mX12_addStep) [tv_I r1, tv_I 0] [] 1 (st' := fun _ => []) tw_X12_addStep tx_X12_addStep tw_c12 ga_m_1 tl_X12_228 rfl rfl rfl rfl (fun _ => rfl) dX12_sum_51 (S_X12_addStep l hE _ r1 0 D5) (fun r6 D7 => ?_)
  refine ts_goto (tgt := 4) rfl dX12_sum_54 ?_
  refine tv_weak (ls' := [tv_R 1, tv_U]) ⟨Or.inr rfl, Or.inl rfl, trivial⟩ ?_
  exact hk4 D7
def F_X12_sum_4 (rec : Nat → td_D → Option (Int × td_D)) : Nat → td_D → Option (Int × td_D)
  | 0, _ => none
  | n + 1, D =>
    if 0 ≤ D 1 20 then
      some (0, D)
    else
      td_b (F_X12_look D) fun r8 D9 =>
      if r8 = 43 then
        F_X12_sum_29 rec (fun D => F_X12_sum_4 rec n D) D9
      else
        td_b (F_X12_look D9) fun r10 D11 =>
        if r10 = 45 then
          F_X12_sum_29 rec (fun D => F_X12_sum_4 rec n D) D11
        else
          some (0, D11)
set_option maxHeartbeats 4000000 in
set_option maxRecDepth 20000 in
theorem S_X12_sum_4 {l : Launch} {E : tv_E} (hE : tv_hE E) (d : Nat) (rec : Nat → td_D → Option (Int × td_D)) (hrec0 : ∀ D : td_D, td_msim l E (d + 1) mX12_either g_m [tv_R 1] D (rec 0 D)) (hrec1 : ∀ D : td_D, td_msim l E (d + 1) mX12_both g_m [tv_R 1] D (rec 1 D)) (hrec2 : ∀ D : td_D, td_msim l E (d + 1) mX12_compared g_m [tv_R 1] D (rec 2 D)) (hrec3 : ∀ D : td_D, td_msim l E (d + 1) mX12_sum g_m [tv_R 1] D (rec 3 D)) (hrec4 : ∀ D : td_D, td_msim l E (d + 1) mX12_product g_m [tv_R 1] D (rec 4 D)) (hrec5 : ∀ D : td_D, td_msim l E (d + 1) mX12_operand g_m [tv_R 1] D (rec 5 D)) : ∀ (n : Nat) (D : td_D), td_sim l E (d + 2) mX12_sum g_m 4 [tv_R 1, tv_U] [] D (F_X12_sum_4 rec n D) := by
  intro n
  induction n with
  | zero => intros; exact tv_none
  | succ n ih =>
    intro D
    show td_sim _ _ _ _ _ _ _ _ _ (F_X12_sum_4 rec (n + 1) D)
    unfold F_X12_sum_4
    refine ts_aload_n (i := 0) rfl rfl dX12_sum_4 ?_
    refine td_getI tl_X12_212 rfl ga_m_1 rfl dX12_sum_5 ?_
    refine td_if_ge (tgt := 57) rfl dX12_sum_8 ?_ ?_
    · exact td_vret rfl dX12_sum_57
    · refine ts_aload_n (i := 0) rfl rfl dX12_sum_11 ?_
      refine tq_callV (y2 := mX12_look) [] [] 1 (st' := fun r8 => [tv_I r8]) tw_X12_look tx_X12_look tw_c12 ga_m_1 tl_X12_224 rfl rfl rfl rfl (fun _ => rfl) dX12_sum_12 (S_X12_look l hE _ D) (fun r8 D9 => ?_)
      refine ts_bipush rfl dX12_sum_15 ?_
      refine td_icmp_eq (tgt := 29) rfl dX12_sum_17 ?_ ?_
      · exact S_X12_sum_29 hE d rec (fun D => F_X12_sum_4 rec n D) hrec0 hrec1 hrec2 hrec3 hrec4 hrec5 (fun D => ih D) D9
      · refine ts_aload_n (i := 0) rfl rfl dX12_sum_20 ?_
        refine tq_callV (y2 := mX12_look) [] [] 1 (st' := fun r10 => [tv_I r10]) tw_X12_look tx_X12_look tw_c12 ga_m_1 tl_X12_224 rfl rfl rfl rfl (fun _ => rfl) dX12_sum_21 (S_X12_look l hE _ D9) (fun r10 D11 => ?_)
        refine ts_bipush rfl dX12_sum_24 ?_
        refine td_icmp_ne (tgt := 57) rfl dX12_sum_26 ?_ ?_
        · exact S_X12_sum_29 hE d rec (fun D => F_X12_sum_4 rec n D) hrec0 hrec1 hrec2 hrec3 hrec4 hrec5 (fun D => ih D) D11
        · exact td_vret rfl dX12_sum_57
def B_X12_sum (rec : Nat → td_D → Option (Int × td_D)) (D : td_D) : Option (Int × td_D) :=
  td_b (rec 4 D) fun _ D13 =>
  F_X12_sum_4 rec tf_N D13
set_option maxHeartbeats 4000000 in
set_option maxRecDepth 20000 in
theorem T_X12_sum (l : Launch) {E : tv_E} (hE : tv_hE E) (d : Nat) (rec : Nat → td_D → Option (Int × td_D)) (hrec0 : ∀ D : td_D, td_msim l E (d + 1) mX12_either g_m [tv_R 1] D (rec 0 D)) (hrec1 : ∀ D : td_D, td_msim l E (d + 1) mX12_both g_m [tv_R 1] D (rec 1 D)) (hrec2 : ∀ D : td_D, td_msim l E (d + 1) mX12_compared g_m [tv_R 1] D (rec 2 D)) (hrec3 : ∀ D : td_D, td_msim l E (d + 1) mX12_sum g_m [tv_R 1] D (rec 3 D)) (hrec4 : ∀ D : td_D, td_msim l E (d + 1) mX12_product g_m [tv_R 1] D (rec 4 D)) (hrec5 : ∀ D : td_D, td_msim l E (d + 1) mX12_operand g_m [tv_R 1] D (rec 5 D)) (D : td_D) : td_msim l E (d + 2) mX12_sum g_m [tv_R 1] D (B_X12_sum rec D) := by
  refine td_meetL (ls := [tv_R 1, tv_U]) rfl (Nat.le_of_ble_eq_true rfl) rfl ?_
  unfold B_X12_sum
  refine ts_aload_n (i := 0) rfl rfl dX12_sum_0 ?_
  refine tq_callV (y2 := mX12_product) [] [] 1 (st' := fun _ => []) tw_X12_product tx_X12_product tw_c12 ga_m_1 tl_X12_249 rfl rfl rfl rfl (fun _ => rfl) dX12_sum_1 (hrec4 D) (fun r12 D13 => ?_)
  exact S_X12_sum_4 hE d rec hrec0 hrec1 hrec2 hrec3 hrec4 hrec5 tf_N D13
def F_X12_product_38 (rec : Nat → td_D → Option (Int × td_D)) (k4 : td_D → Option (Int × td_D)) (D : td_D) : Option (Int × td_D) :=
  td_b (F_X12_look D) fun r1 D2 =>
  td_l (td_upd D2 1 19 (tv_w ((D2 1 19) + 1))) fun D3 =>
  td_b (rec 5 D3) fun _ D5 =>
  td_b (F_X12_addStep r1 0 D5) fun _ D7 =>
  k4 D7
set_option maxHeartbeats 4000000 in
set_option maxRecDepth 20000 in
theorem S_X12_product_38 {l : Launch} {E : tv_E} (hE : tv_hE E) (d : Nat) (rec : Nat → td_D → Option (Int × td_D)) (k4 : td_D → Option (Int × td_D)) (hrec0 : ∀ D : td_D, td_msim l E (d + 1) mX12_either g_m [tv_R 1] D (rec 0 D)) (hrec1 : ∀ D : td_D, td_msim l E (d + 1) mX12_both g_m [tv_R 1] D (rec 1 D)) (hrec2 : ∀ D : td_D, td_msim l E (d + 1) mX12_compared g_m [tv_R 1] D (rec 2 D)) (hrec3 : ∀ D : td_D, td_msim l E (d + 1) mX12_sum g_m [tv_R 1] D (rec 3 D)) (hrec4 : ∀ D : td_D, td_msim l E (d + 1) mX12_product g_m [tv_R 1] D (rec 4 D)) (hrec5 : ∀ D : td_D, td_msim l E (d + 1) mX12_operand g_m [tv_R 1] D (rec 5 D)) (hk4 : ∀ (D : td_D), td_sim l E (d + 2) mX12_product g_m 4 [tv_R 1, tv_U] [] D (k4 D)) (D : td_D) : td_sim l E (d + 2) mX12_product g_m 38 [tv_R 1, tv_U] [] D (F_X12_product_38 rec k4 D) := by
  unfold F_X12_product_38
  refine ts_aload_n (i := 0) rfl rfl dX12_product_38 ?_
  refine tq_callV (y2 := mX12_look) [] [] 1 (st' := fun r1 => [tv_I r1]) tw_X12_look tx_X12_look tw_c12 ga_m_1 tl_X12_224 rfl rfl rfl rfl (fun _ => rfl) dX12_product_39 (S_X12_look l hE _ D) (fun r1 D2 => ?_)
  refine tq_istore_n [tv_R 1, tv_I r1] rfl (Nat.le_of_ble_eq_true rfl) rfl rfl dX12_product_42 ?_
  refine ts_aload_n (i := 0) rfl rfl dX12_product_43 ?_
  refine ts_dupR dX12_product_44 ?_
  refine td_getI tl_X12_209 rfl ga_m_1 rfl dX12_product_45 ?_
  refine ts_iconst rfl dX12_product_48 ?_
  refine ts_iadd dX12_product_49 ?_
  refine td_putI tf_X12_209 (by intro h; cases h) rfl ga_m_1 rfl dX12_product_50 ?_
  refine td_let (fun D3 => ?_)
  refine ts_aload_n (i := 0) rfl rfl dX12_product_53 ?_
  refine tq_callV (y2 := mX12_operand) [] [] 1 (st' := fun _ => []) tw_X12_operand tx_X12_operand tw_c12 ga_m_1 tl_X12_240 rfl rfl rfl rfl (fun _ => rfl) dX12_product_54 (hrec5 D3) (fun r4 D5 => ?_)
  refine ts_aload_n (i := 0) rfl rfl dX12_product_57 ?_
  refine ts_iload_n (i := 1) rfl rfl dX12_product_58 ?_
  refine ts_iconst rfl dX12_product_59 ?_
  refine tq_callV (y2 := mX12_addStep) [tv_I r1, tv_I 0] [] 1 (st' := fun _ => []) tw_X12_addStep tx_X12_addStep tw_c12 ga_m_1 tl_X12_228 rfl rfl rfl rfl (fun _ => rfl) dX12_product_60 (S_X12_addStep l hE _ r1 0 D5) (fun r6 D7 => ?_)
  refine ts_goto (tgt := 4) rfl dX12_product_63 ?_
  refine tv_weak (ls' := [tv_R 1, tv_U]) ⟨Or.inr rfl, Or.inl rfl, trivial⟩ ?_
  exact hk4 D7
def F_X12_product_4 (rec : Nat → td_D → Option (Int × td_D)) : Nat → td_D → Option (Int × td_D)
  | 0, _ => none
  | n + 1, D =>
    if 0 ≤ D 1 20 then
      some (0, D)
    else
      td_b (F_X12_look D) fun r8 D9 =>
      if r8 = 42 then
        F_X12_product_38 rec (fun D => F_X12_product_4 rec n D) D9
      else
        td_b (F_X12_look D9) fun r10 D11 =>
        if r10 = 47 then
          F_X12_product_38 rec (fun D => F_X12_product_4 rec n D) D11
        else
          td_b (F_X12_look D11) fun r12 D13 =>
          if r12 = 37 then
            F_X12_product_38 rec (fun D => F_X12_product_4 rec n D) D13
          else
            some (0, D13)
set_option maxHeartbeats 4000000 in
set_option maxRecDepth 20000 in
theorem S_X12_product_4 {l : Launch} {E : tv_E} (hE : tv_hE E) (d : Nat) (rec : Nat → td_D → Option (Int × td_D)) (hrec0 : ∀ D : td_D, td_msim l E (d + 1) mX12_either g_m [tv_R 1] D (rec 0 D)) (hrec1 : ∀ D : td_D, td_msim l E (d + 1) mX12_both g_m [tv_R 1] D (rec 1 D)) (hrec2 : ∀ D : td_D, td_msim l E (d + 1) mX12_compared g_m [tv_R 1] D (rec 2 D)) (hrec3 : ∀ D : td_D, td_msim l E (d + 1) mX12_sum g_m [tv_R 1] D (rec 3 D)) (hrec4 : ∀ D : td_D, td_msim l E (d + 1) mX12_product g_m [tv_R 1] D (rec 4 D)) (hrec5 : ∀ D : td_D, td_msim l E (d + 1) mX12_operand g_m [tv_R 1] D (rec 5 D)) : ∀ (n : Nat) (D : td_D), td_sim l E (d + 2) mX12_product g_m 4 [tv_R 1, tv_U] [] D (F_X12_product_4 rec n D) := by
  intro n
  induction n with
  | zero => intros; exact tv_none
  | succ n ih =>
    intro D
    show td_sim _ _ _ _ _ _ _ _ _ (F_X12_product_4 rec (n + 1) D)
    unfold F_X12_product_4
    refine ts_aload_n (i := 0) rfl rfl dX12_product_4 ?_
    refine td_getI tl_X12_212 rfl ga_m_1 rfl dX12_product_5 ?_
    refine td_if_ge (tgt := 66) rfl dX12_product_8 ?_ ?_
    · exact td_vret rfl dX12_product_66
    · refine ts_aload_n (i := 0) rfl rfl dX12_product_11 ?_
      refine tq_callV (y2 := mX12_look) [] [] 1 (st' := fun r8 => [tv_I r8]) tw_X12_look tx_X12_look tw_c12 ga_m_1 tl_X12_224 rfl rfl rfl rfl (fun _ => rfl) dX12_product_12 (S_X12_look l hE _ D) (fun r8 D9 => ?_)
      refine ts_bipush rfl dX12_product_15 ?_
      refine td_icmp_eq (tgt := 38) rfl dX12_product_17 ?_ ?_
      · exact S_X12_product_38 hE d rec (fun D => F_X12_product_4 rec n D) hrec0 hrec1 hrec2 hrec3 hrec4 hrec5 (fun D => ih D) D9
      · refine ts_aload_n (i := 0) rfl rfl dX12_product_20 ?_
        refine tq_callV (y2 := mX12_look) [] [] 1 (st' := fun r10 => [tv_I r10]) tw_X12_look tx_X12_look tw_c12 ga_m_1 tl_X12_224 rfl rfl rfl rfl (fun _ => rfl) dX12_product_21 (S_X12_look l hE _ D9) (fun r10 D11 => ?_)
        refine ts_bipush rfl dX12_product_24 ?_
        refine td_icmp_eq (tgt := 38) rfl dX12_product_26 ?_ ?_
        · exact S_X12_product_38 hE d rec (fun D => F_X12_product_4 rec n D) hrec0 hrec1 hrec2 hrec3 hrec4 hrec5 (fun D => ih D) D11
        · refine ts_aload_n (i := 0) rfl rfl dX12_product_29 ?_
          refine tq_callV (y2 := mX12_look) [] [] 1 (st' := fun r12 => [tv_I r12]) tw_X12_look tx_X12_look tw_c12 ga_m_1 tl_X12_224 rfl rfl rfl rfl (fun _ => rfl) dX12_product_30 (S_X12_look l hE _ D11) (fun r12 D13 => ?_)
          refine ts_bipush rfl dX12_product_33 ?_
          refine td_icmp_ne (tgt := 66) rfl dX12_product_35 ?_ ?_
          · exact S_X12_product_38 hE d rec (fun D => F_X12_product_4 rec n D) hrec0 hrec1 hrec2 hrec3 hrec4 hrec5 (fun D => ih D) D13
          · exact td_vret rfl dX12_product_66
def B_X12_product (rec : Nat → td_D → Option (Int × td_D)) (D : td_D) : Option (Int × td_D) :=
  td_b (rec 5 D) fun _ D15 =>
  F_X12_product_4 rec tf_N D15
set_option maxHeartbeats 4000000 in
set_option maxRecDepth 20000 in
theorem T_X12_product (l : Launch) {E : tv_E} (hE : tv_hE E) (d : Nat) (rec : Nat → td_D → Option (Int × td_D)) (hrec0 : ∀ D : td_D, td_msim l E (d + 1) mX12_either g_m [tv_R 1] D (rec 0 D)) (hrec1 : ∀ D : td_D, td_msim l E (d + 1) mX12_both g_m [tv_R 1] D (rec 1 D)) (hrec2 : ∀ D : td_D, td_msim l E (d + 1) mX12_compared g_m [tv_R 1] D (rec 2 D)) (hrec3 : ∀ D : td_D, td_msim l E (d + 1) mX12_sum g_m [tv_R 1] D (rec 3 D)) (hrec4 : ∀ D : td_D, td_msim l E (d + 1) mX12_product g_m [tv_R 1] D (rec 4 D)) (hrec5 : ∀ D : td_D, td_msim l E (d + 1) mX12_operand g_m [tv_R 1] D (rec 5 D)) (D : td_D) : td_msim l E (d + 2) mX12_product g_m [tv_R 1] D (B_X12_product rec D) := by
  refine td_meetL (ls := [tv_R 1, tv_U]) rfl (Nat.le_of_ble_eq_true rfl) rfl ?_
  unfold B_X12_product
  refine ts_aload_n (i := 0) rfl rfl dX12_product_0 ?_
  refine tq_callV (y2 := mX12_operand) [] [] 1 (st' := fun _ => []) tw_X12_operand tx_X12_operand tw_c12 ga_m_1 tl_X12_240 rfl rfl rfl rfl (fun _ => rfl) dX12_product_1 (hrec5 D) (fun r14 D15 => ?_)
  exact S_X12_product_4 hE d rec hrec0 hrec1 hrec2 hrec3 hrec4 hrec5 tf_N D15
def F_X12_operand_46 (rec : Nat → td_D → Option (Int × td_D)) (v1 : Int) (D : td_D) : Option (Int × td_D) :=
  td_b (F_X12_opens D) fun r1 D2 =>
  if r1 = 0 then
    some (0, D2)
  else
    td_b (rec 5 D2) fun _ D4 =>
    td_l (td_upd D4 1 21 (tv_w ((D4 1 21) - 1))) fun D5 =>
    if v1 = 33 then
      td_b (F_X12_addStep 3 0 D5) fun _ D7 =>
      some (0, D7)
    else
      td_b (F_X12_addStep 4 0 D5) fun _ D9 =>
      some (0, D9)
set_option maxHeartbeats 4000000 in
set_option maxRecDepth 20000 in
theorem S_X12_operand_46 {l : Launch} {E : tv_E} (hE : tv_hE E) (d : Nat) (rec : Nat → td_D → Option (Int × td_D)) (hrec0 : ∀ D : td_D, td_msim l E (d + 1) mX12_either g_m [tv_R 1] D (rec 0 D)) (hrec1 : ∀ D : td_D, td_msim l E (d + 1) mX12_both g_m [tv_R 1] D (rec 1 D)) (hrec2 : ∀ D : td_D, td_msim l E (d + 1) mX12_compared g_m [tv_R 1] D (rec 2 D)) (hrec3 : ∀ D : td_D, td_msim l E (d + 1) mX12_sum g_m [tv_R 1] D (rec 3 D)) (hrec4 : ∀ D : td_D, td_msim l E (d + 1) mX12_product g_m [tv_R 1] D (rec 4 D)) (hrec5 : ∀ D : td_D, td_msim l E (d + 1) mX12_operand g_m [tv_R 1] D (rec 5 D)) (v1 : Int) (D : td_D) : td_sim l E (d + 2) mX12_operand g_m 46 [tv_R 1, tv_I v1] [] D (F_X12_operand_46 rec v1 D) := by
  unfold F_X12_operand_46
  refine ts_aload_n (i := 0) rfl rfl dX12_operand_46 ?_
  refine tq_callV (y2 := mX12_opens) [] [] 1 (st' := fun r1 => [tv_I r1]) tw_X12_opens tx_X12_opens tw_c12 ga_m_1 tl_X12_236 rfl rfl rfl rfl (fun _ => rfl) dX12_operand_47 (S_X12_opens l hE _ D) (fun r1 D2 => ?_)
  refine td_if_ne (tgt := 54) rfl dX12_operand_50 ?_ ?_
  · exact td_vret rfl dX12_operand_53
  · refine ts_aload_n (i := 0) rfl rfl dX12_operand_54 ?_
    refine tq_callV (y2 := mX12_operand) [] [] 1 (st' := fun _ => []) tw_X12_operand tx_X12_operand tw_c12 ga_m_1 tl_X12_240 rfl rfl rfl rfl (fun _ => rfl) dX12_operand_55 (hrec5 D2) (fun r3 D4 => ?_)
    refine ts_aload_n (i := 0) rfl rfl dX12_operand_58 ?_
    refine ts_dupR dX12_operand_59 ?_
    refine td_getI tl_X12_218 rfl ga_m_1 rfl dX12_operand_60 ?_
    refine ts_iconst rfl dX12_operand_63 ?_
    refine ts_isub dX12_operand_64 ?_
    refine td_putI tf_X12_218 (by intro h; cases h) rfl ga_m_1 rfl dX12_operand_65 ?_
    refine td_let (fun D5 => ?_)
    refine ts_aload_n (i := 0) rfl rfl dX12_operand_68 ?_
    refine ts_iload_n (i := 1) rfl rfl dX12_operand_69 ?_
    refine ts_bipush rfl dX12_operand_70 ?_
    refine td_icmp_ne (tgt := 79) rfl dX12_operand_72 ?_ ?_
    · refine ts_iconst rfl dX12_operand_75 ?_
      refine ts_goto (tgt := 80) rfl dX12_operand_76 ?_
      refine ts_iconst rfl dX12_operand_80 ?_
      refine tq_callV (y2 := mX12_addStep) [tv_I 3, tv_I 0] [] 1 (st' := fun _ => []) tw_X12_addStep tx_X12_addStep tw_c12 ga_m_1 tl_X12_228 rfl rfl rfl rfl (fun _ => rfl) dX12_operand_81 (S_X12_addStep l hE _ 3 0 D5) (fun r6 D7 => ?_)
      refine ts_goto (tgt := 154) rfl dX12_operand_84 ?_
      exact td_vret rfl dX12_operand_154
    · refine ts_iconst rfl dX12_operand_79 ?_
      refine ts_iconst rfl dX12_operand_80 ?_
      refine tq_callV (y2 := mX12_addStep) [tv_I 4, tv_I 0] [] 1 (st' := fun _ => []) tw_X12_addStep tx_X12_addStep tw_c12 ga_m_1 tl_X12_228 rfl rfl rfl rfl (fun _ => rfl) dX12_operand_81 (S_X12_addStep l hE _ 4 0 D5) (fun r8 D9 => ?_)
      refine ts_goto (tgt := 154) rfl dX12_operand_84 ?_
      exact td_vret rfl dX12_operand_154
def B_X12_operand (rec : Nat → td_D → Option (Int × td_D)) (D : td_D) : Option (Int × td_D) :=
  td_b (F_X12_look D) fun r10 D11 =>
  td_b (F_X12_nameOf r10 D11) fun r12 D13 =>
  if r12 < 0 then
    if r10 = 33 then
      F_X12_operand_46 rec r10 D13
    else
      if r10 = 45 then
        F_X12_operand_46 rec r10 D13
      else
        if r10 = 40 then
          td_b (F_X12_opens D13) fun r14 D15 =>
          if r14 = 0 then
            some (0, D15)
          else
            td_b (rec 0 D15) fun _ D17 =>
            if D17 1 20 < 0 then
              td_b (F_X12_look D17) fun r18 D19 =>
              if r18 = 41 then
                td_l (td_upd D19 1 19 (tv_w ((D19 1 19) + 1))) fun D20 =>
                td_l (td_upd D20 1 21 (tv_w ((D20 1 21) - 1))) fun D21 =>
                some (0, D21)
              else
                td_b (F_X12_wrong D19) fun _ D23 =>
                some (0, D23)
            else
              some (0, D17)
        else
          td_b (F_X12_figure D13) fun _ D25 =>
          some (0, D25)
  else
    td_b (F_X12_nameOf r10 D13) fun r26 D27 =>
    td_b (F_X12_addStep 2 r26 D27) fun _ D29 =>
    td_l (td_upd D29 1 19 (tv_w ((D29 1 19) + 1))) fun D30 =>
    some (0, D30)
set_option maxHeartbeats 4000000 in
set_option maxRecDepth 20000 in
theorem T_X12_operand (l : Launch) {E : tv_E} (hE : tv_hE E) (d : Nat) (rec : Nat → td_D → Option (Int × td_D)) (hrec0 : ∀ D : td_D, td_msim l E (d + 1) mX12_either g_m [tv_R 1] D (rec 0 D)) (hrec1 : ∀ D : td_D, td_msim l E (d + 1) mX12_both g_m [tv_R 1] D (rec 1 D)) (hrec2 : ∀ D : td_D, td_msim l E (d + 1) mX12_compared g_m [tv_R 1] D (rec 2 D)) (hrec3 : ∀ D : td_D, td_msim l E (d + 1) mX12_sum g_m [tv_R 1] D (rec 3 D)) (hrec4 : ∀ D : td_D, td_msim l E (d + 1) mX12_product g_m [tv_R 1] D (rec 4 D)) (hrec5 : ∀ D : td_D, td_msim l E (d + 1) mX12_operand g_m [tv_R 1] D (rec 5 D)) (D : td_D) : td_msim l E (d + 2) mX12_operand g_m [tv_R 1] D (B_X12_operand rec D) := by
  refine td_meetL (ls := [tv_R 1, tv_U]) rfl (Nat.le_of_ble_eq_true rfl) rfl ?_
  unfold B_X12_operand
  refine ts_aload_n (i := 0) rfl rfl dX12_operand_0 ?_
  refine tq_callV (y2 := mX12_look) [] [] 1 (st' := fun r10 => [tv_I r10]) tw_X12_look tx_X12_look tw_c12 ga_m_1 tl_X12_224 rfl rfl rfl rfl (fun _ => rfl) dX12_operand_1 (S_X12_look l hE _ D) (fun r10 D11 => ?_)
  refine tq_istore_n [tv_R 1, tv_I r10] rfl (Nat.le_of_ble_eq_true rfl) rfl rfl dX12_operand_4 ?_
  refine ts_iload_n (i := 1) rfl rfl dX12_operand_5 ?_
  refine tq_callS (y2 := mX12_nameOf) [tv_I r10] [] (st' := fun r12 => [tv_I r12]) tw_X12_nameOf tx_X12_nameOf tl_X12_232 rfl rfl rfl rfl (fun _ => rfl) dX12_operand_6 (S_X12_nameOf l hE _ r10 D11) (fun r12 D13 => ?_)
  refine td_if_lt (tgt := 34) rfl dX12_operand_9 ?_ ?_
  · refine ts_iload_n (i := 1) rfl rfl dX12_operand_34 ?_
    refine ts_bipush rfl dX12_operand_35 ?_
    refine td_icmp_eq (tgt := 46) rfl dX12_operand_37 ?_ ?_
    · exact S_X12_operand_46 hE d rec hrec0 hrec1 hrec2 hrec3 hrec4 hrec5 r10 D13
    · refine ts_iload_n (i := 1) rfl rfl dX12_operand_40 ?_
      refine ts_bipush rfl dX12_operand_41 ?_
      refine td_icmp_ne (tgt := 87) rfl dX12_operand_43 ?_ ?_
      · exact S_X12_operand_46 hE d rec hrec0 hrec1 hrec2 hrec3 hrec4 hrec5 r10 D13
      · refine ts_iload_n (i := 1) rfl rfl dX12_operand_87 ?_
        refine ts_bipush rfl dX12_operand_88 ?_
        refine td_icmp_ne (tgt := 150) rfl dX12_operand_90 ?_ ?_
        · refine ts_aload_n (i := 0) rfl rfl dX12_operand_93 ?_
          refine tq_callV (y2 := mX12_opens) [] [] 1 (st' := fun r14 => [tv_I r14]) tw_X12_opens tx_X12_opens tw_c12 ga_m_1 tl_X12_236 rfl rfl rfl rfl (fun _ => rfl) dX12_operand_94 (S_X12_opens l hE _ D13) (fun r14 D15 => ?_)
          refine td_if_ne (tgt := 101) rfl dX12_operand_97 ?_ ?_
          · exact td_vret rfl dX12_operand_100
          · refine ts_aload_n (i := 0) rfl rfl dX12_operand_101 ?_
            refine tq_callV (y2 := mX12_either) [] [] 1 (st' := fun _ => []) tw_X12_either tx_X12_either tw_c12 ga_m_1 tl_X12_243 rfl rfl rfl rfl (fun _ => rfl) dX12_operand_102 (hrec0 D15) (fun r16 D17 => ?_)
            refine ts_aload_n (i := 0) rfl rfl dX12_operand_105 ?_
            refine td_getI tl_X12_212 rfl ga_m_1 rfl dX12_operand_106 ?_
            refine td_if_lt (tgt := 113) rfl dX12_operand_109 ?_ ?_
            · refine ts_aload_n (i := 0) rfl rfl dX12_operand_113 ?_
              refine tq_callV (y2 := mX12_look) [] [] 1 (st' := fun r18 => [tv_I r18]) tw_X12_look tx_X12_look tw_c12 ga_m_1 tl_X12_224 rfl rfl rfl rfl (fun _ => rfl) dX12_operand_114 (S_X12_look l hE _ D17) (fun r18 D19 => ?_)
              refine ts_bipush rfl dX12_operand_117 ?_
              refine td_icmp_eq (tgt := 127) rfl dX12_operand_119 ?_ ?_
              · refine ts_aload_n (i := 0) rfl rfl dX12_operand_127 ?_
                refine ts_dupR dX12_operand_128 ?_
                refine td_getI tl_X12_209 rfl ga_m_1 rfl dX12_operand_129 ?_
                refine ts_iconst rfl dX12_operand_132 ?_
                refine ts_iadd dX12_operand_133 ?_
                refine td_putI tf_X12_209 (by intro h; cases h) rfl ga_m_1 rfl dX12_operand_134 ?_
                refine td_let (fun D20 => ?_)
                refine ts_aload_n (i := 0) rfl rfl dX12_operand_137 ?_
                refine ts_dupR dX12_operand_138 ?_
                refine td_getI tl_X12_218 rfl ga_m_1 rfl dX12_operand_139 ?_
                refine ts_iconst rfl dX12_operand_142 ?_
                refine ts_isub dX12_operand_143 ?_
                refine td_putI tf_X12_218 (by intro h; cases h) rfl ga_m_1 rfl dX12_operand_144 ?_
                refine td_let (fun D21 => ?_)
                refine ts_goto (tgt := 154) rfl dX12_operand_147 ?_
                exact td_vret rfl dX12_operand_154
              · refine ts_aload_n (i := 0) rfl rfl dX12_operand_122 ?_
                refine tq_callV (y2 := mX12_wrong) [] [] 1 (st' := fun _ => []) tw_X12_wrong tx_X12_wrong tw_c12 ga_m_1 tl_X12_221 rfl rfl rfl rfl (fun _ => rfl) dX12_operand_123 (S_X12_wrong l hE _ D19) (fun r22 D23 => ?_)
                exact td_vret rfl dX12_operand_126
            · exact td_vret rfl dX12_operand_112
        · refine ts_aload_n (i := 0) rfl rfl dX12_operand_150 ?_
          refine tq_callV (y2 := mX12_figure) [] [] 1 (st' := fun _ => []) tw_X12_figure tx_X12_figure tw_c12 ga_m_1 tl_X12_246 rfl rfl rfl rfl (fun _ => rfl) dX12_operand_151 (S_X12_figure l hE _ D13) (fun r24 D25 => ?_)
          exact td_vret rfl dX12_operand_154
  · refine ts_aload_n (i := 0) rfl rfl dX12_operand_12 ?_
    refine ts_iconst rfl dX12_operand_13 ?_
    refine ts_iload_n (i := 1) rfl rfl dX12_operand_14 ?_
    refine tq_callS (y2 := mX12_nameOf) [tv_I r10] [tv_I 2, tv_R 1] (st' := fun r26 => [tv_I r26, tv_I 2, tv_R 1]) tw_X12_nameOf tx_X12_nameOf tl_X12_232 rfl rfl rfl rfl (fun _ => rfl) dX12_operand_15 (S_X12_nameOf l hE _ r10 D13) (fun r26 D27 => ?_)
    refine tq_callV (y2 := mX12_addStep) [tv_I 2, tv_I r26] [] 1 (st' := fun _ => []) tw_X12_addStep tx_X12_addStep tw_c12 ga_m_1 tl_X12_228 rfl rfl rfl rfl (fun _ => rfl) dX12_operand_18 (S_X12_addStep l hE _ 2 r26 D27) (fun r28 D29 => ?_)
    refine ts_aload_n (i := 0) rfl rfl dX12_operand_21 ?_
    refine ts_dupR dX12_operand_22 ?_
    refine td_getI tl_X12_209 rfl ga_m_1 rfl dX12_operand_23 ?_
    refine ts_iconst rfl dX12_operand_26 ?_
    refine ts_iadd dX12_operand_27 ?_
    refine td_putI tf_X12_209 (by intro h; cases h) rfl ga_m_1 rfl dX12_operand_28 ?_
    refine td_let (fun D30 => ?_)
    refine ts_goto (tgt := 154) rfl dX12_operand_31 ?_
    exact td_vret rfl dX12_operand_154
def F_mo : Nat → Nat → td_D → Option (Int × td_D)
  | 0, _, _ => none
  | n + 1, t, D => if t = 0 then B_X12_either (F_mo n) D else if t = 1 then B_X12_both (F_mo n) D else if t = 2 then B_X12_compared (F_mo n) D else if t = 3 then B_X12_sum (F_mo n) D else if t = 4 then B_X12_product (F_mo n) D else B_X12_operand (F_mo n) D
set_option maxRecDepth 20000 in
theorem S_mo (l : Launch) {E : tv_E} (hE : tv_hE E) (d : Nat) : ∀ n : Nat, (∀ (D : td_D), td_msim l E (d + n + 1) mX12_either g_m [tv_R 1] D (F_mo n 0 D)) ∧ (∀ (D : td_D), td_msim l E (d + n + 1) mX12_both g_m [tv_R 1] D (F_mo n 1 D)) ∧ (∀ (D : td_D), td_msim l E (d + n + 1) mX12_compared g_m [tv_R 1] D (F_mo n 2 D)) ∧ (∀ (D : td_D), td_msim l E (d + n + 1) mX12_sum g_m [tv_R 1] D (F_mo n 3 D)) ∧ (∀ (D : td_D), td_msim l E (d + n + 1) mX12_product g_m [tv_R 1] D (F_mo n 4 D)) ∧ (∀ (D : td_D), td_msim l E (d + n + 1) mX12_operand g_m [tv_R 1] D (F_mo n 5 D)) := by
  intro n
  induction n with
  | zero => exact ⟨(by intros; intro r M hx; cases hx), (by intros; intro r M hx; cases hx), (by intros; intro r M hx; cases hx), (by intros; intro r M hx; cases hx), (by intros; intro r M hx; cases hx), (by intros; intro r M hx; cases hx)⟩
  | succ n ih =>
    obtain ⟨i0, i1, i2, i3, i4, i5⟩ := ih
    refine ⟨?_, ?_, ?_, ?_, ?_, ?_⟩
    · intro D
      exact T_X12_either l hE (d + n) (F_mo n) i0 i1 i2 i3 i4 i5 D
    · intro D
      exact T_X12_both l hE (d + n) (F_mo n) i0 i1 i2 i3 i4 i5 D
    · intro D
      exact T_X12_compared l hE (d + n) (F_mo n) i0 i1 i2 i3 i4 i5 D
    · intro D
      exact T_X12_sum l hE (d + n) (F_mo n) i0 i1 i2 i3 i4 i5 D
    · intro D
      exact T_X12_product l hE (d + n) (F_mo n) i0 i1 i2 i3 i4 i5 D
    · intro D
      exact T_X12_operand l hE (d + n) (F_mo n) i0 i1 i2 i3 i4 i5 D
def F_X12_either (D : td_D) : Option (Int × td_D) := F_mo 100 0 D
theorem S_X12_either (l : Launch) {E : tv_E} (hE : tv_hE E) (d : Nat) (D : td_D) : td_msim l E (d + 101) mX12_either g_m [tv_R 1] D (F_X12_either D) := (S_mo l hE d 100).1 D
def F_X12_both (D : td_D) : Option (Int × td_D) := F_mo 100 1 D
theorem S_X12_both (l : Launch) {E : tv_E} (hE : tv_hE E) (d : Nat) (D : td_D) : td_msim l E (d + 101) mX12_both g_m [tv_R 1] D (F_X12_both D) := (S_mo l hE d 100).2.1 D
def F_X12_compared (D : td_D) : Option (Int × td_D) := F_mo 100 2 D
theorem S_X12_compared (l : Launch) {E : tv_E} (hE : tv_hE E) (d : Nat) (D : td_D) : td_msim l E (d + 101) mX12_compared g_m [tv_R 1] D (F_X12_compared D) := (S_mo l hE d 100).2.2.1 D
def F_X12_sum (D : td_D) : Option (Int × td_D) := F_mo 100 3 D
theorem S_X12_sum (l : Launch) {E : tv_E} (hE : tv_hE E) (d : Nat) (D : td_D) : td_msim l E (d + 101) mX12_sum g_m [tv_R 1] D (F_X12_sum D) := (S_mo l hE d 100).2.2.2.1 D
def F_X12_product (D : td_D) : Option (Int × td_D) := F_mo 100 4 D
theorem S_X12_product (l : Launch) {E : tv_E} (hE : tv_hE E) (d : Nat) (D : td_D) : td_msim l E (d + 101) mX12_product g_m [tv_R 1] D (F_X12_product D) := (S_mo l hE d 100).2.2.2.2.1 D
def F_X12_operand (D : td_D) : Option (Int × td_D) := F_mo 100 5 D
theorem S_X12_operand (l : Launch) {E : tv_E} (hE : tv_hE E) (d : Nat) (D : td_D) : td_msim l E (d + 101) mX12_operand g_m [tv_R 1] D (F_X12_operand D) := (S_mo l hE d 100).2.2.2.2.2 D
def F_X8_begin (a1 : Int) (a2 : Int) (a3 : Int) (D : td_D) : Option (Int × td_D) :=
  td_l (td_upd D 43 4 a1) fun D1 =>
  td_b (F_X8_own a2 a3 0 D1) fun r2 D3 =>
  some (r2, D3)
set_option maxHeartbeats 4000000 in
set_option maxRecDepth 20000 in
theorem S_X8_begin (l : Launch) {E : tv_E} (hE : tv_hE E) (d : Nat) (a1 : Int) (a2 : Int) (a3 : Int) (D : td_D) : td_msim l E (d + 102) mX8_begin g_c [tv_R 43, tv_I a1, tv_I a2, tv_I a3] D (F_X8_begin a1 a2 a3 D) := by
  refine td_meetL (ls := [tv_R 43, tv_I a1, tv_I a2, tv_I a3]) rfl (Nat.le_of_ble_eq_true rfl) rfl ?_
  unfold F_X8_begin
  refine ts_aload_n (i := 0) rfl rfl dX8_begin_0 ?_
  refine ts_iload_n (i := 1) rfl rfl dX8_begin_1 ?_
  refine td_putI tf_X8_25 (by intro h; cases h) rfl ga_c_43 rfl dX8_begin_2 ?_
  refine td_let (fun D1 => ?_)
  refine ts_aload_n (i := 0) rfl rfl dX8_begin_5 ?_
  refine ts_iload_n (i := 2) rfl rfl dX8_begin_6 ?_
  refine ts_iload_n (i := 3) rfl rfl dX8_begin_7 ?_
  refine ts_iconst rfl dX8_begin_8 ?_
  refine tq_callV (y2 := mX8_own) [tv_I a2, tv_I a3, tv_I 0] [] 43 (st' := fun r2 => [tv_I r2]) tw_X8_own tx_X8_own tw_c8 ga_c_43 tl_X8_28 rfl rfl rfl rfl (fun _ => rfl) dX8_begin_9 (S_X8_own l hE _ a2 a3 0 D1) (fun r2 D3 => ?_)
  exact td_iret rfl dX8_begin_12
def F_X11_act (a1 : Int) (a2 : Int) (a3 : Int) (D : td_D) : Option (Int × td_D) :=
  td_l (td_upd D 43 3 0) fun D1 =>
  td_b (F_X8_isBody a1 D1) fun r2 D3 =>
  if r2 = 0 then
    some (0, D3)
  else
    if a2 < 0 then
      some (0, D3)
    else
      if a2 < 4 then
        td_b (F_X8_begin a1 a2 a3 D3) fun r4 D5 =>
        some (r4, D5)
      else
        some (0, D3)
set_option maxHeartbeats 4000000 in
set_option maxRecDepth 20000 in
theorem S_X11_act (l : Launch) {E : tv_E} (hE : tv_hE E) (d : Nat) (a1 : Int) (a2 : Int) (a3 : Int) (D : td_D) : td_msim l E (d + 103) mX11_act g_c [tv_R 1, tv_I a1, tv_I a2, tv_I a3] D (F_X11_act a1 a2 a3 D) := by
  refine td_meetL (ls := [tv_R 1, tv_I a1, tv_I a2, tv_I a3]) rfl (Nat.le_of_ble_eq_true rfl) rfl ?_
  unfold F_X11_act
  refine ts_aload_n (i := 0) rfl rfl dX11_act_0 ?_
  refine td_getR (q := 43) tl_X11_88 rfl ga_c_1 rfl dX11_act_1 ?_
  refine ts_iconst rfl dX11_act_4 ?_
  refine td_putI tf_X11_375 (by intro h; cases h) rfl ga_c_43 rfl dX11_act_5 ?_
  refine td_let (fun D1 => ?_)
  refine ts_aload_n (i := 0) rfl rfl dX11_act_8 ?_
  refine td_getR (q := 43) tl_X11_88 rfl ga_c_1 rfl dX11_act_9 ?_
  refine ts_iload_n (i := 1) rfl rfl dX11_act_12 ?_
  refine tq_callV (y2 := mX8_isBody) [tv_I a1] [] 43 (st' := fun r2 => [tv_I r2]) tw_X8_isBody tx_X8_isBody tw_c8 ga_c_43 tl_X11_378 rfl rfl rfl rfl (fun _ => rfl) dX11_act_13 (S_X8_isBody l hE _ a1 D1) (fun r2 D3 => ?_)
  refine td_if_eq (tgt := 28) rfl dX11_act_16 ?_ ?_
  · refine ts_iconst rfl dX11_act_28 ?_
    exact td_iret rfl dX11_act_29
  · refine ts_iload_n (i := 2) rfl rfl dX11_act_19 ?_
    refine td_if_lt (tgt := 28) rfl dX11_act_20 ?_ ?_
    · refine ts_iconst rfl dX11_act_28 ?_
      exact td_iret rfl dX11_act_29
    · refine ts_iload_n (i := 2) rfl rfl dX11_act_23 ?_
      refine ts_iconst rfl dX11_act_24 ?_
      refine td_icmp_lt (tgt := 30) rfl dX11_act_25 ?_ ?_
      · refine ts_aload_n (i := 0) rfl rfl dX11_act_30 ?_
        refine td_getR (q := 43) tl_X11_88 rfl ga_c_1 rfl dX11_act_31 ?_
        refine ts_iload_n (i := 1) rfl rfl dX11_act_34 ?_
        refine ts_iload_n (i := 2) rfl rfl dX11_act_35 ?_
        refine ts_iload_n (i := 3) rfl rfl dX11_act_36 ?_
        refine tq_callV (y2 := mX8_begin) [tv_I a1, tv_I a2, tv_I a3] [] 43 (st' := fun r4 => [tv_I r4]) tw_X8_begin tx_X8_begin tw_c8 ga_c_43 tl_X11_381 rfl rfl rfl rfl (fun _ => rfl) dX11_act_37 (S_X8_begin l hE _ a1 a2 a3 D3) (fun r4 D5 => ?_)
        exact td_iret rfl dX11_act_40
      · refine ts_iconst rfl dX11_act_28 ?_
        exact td_iret rfl dX11_act_29
def F_X9_readLine (p1 : Nat) (D : td_D) : Option (Int × td_D) :=
  td_b (F_X9_readRank p1 0 0 D) fun _ D2 =>
  if D2 10 3 = 0 then
    td_b (F_X9_sign D2) fun r3 D4 =>
    if r3 = 63 then
      td_l (td_upd D4 10 2 (tv_w ((D4 10 2) + 1))) fun D5 =>
      td_b (F_X1_add p1 6 0 D5) fun _ D7 =>
      td_b (F_X9_readRank p1 0 0 D7) fun _ D9 =>
      td_b (F_X1_add p1 5 0 D9) fun _ D11 =>
      td_b (F_X1_landHere p1 (D5 p1 3) D11) fun _ D13 =>
      some (0, D13)
    else
      td_b (F_X1_add p1 5 0 D4) fun _ D15 =>
      some (0, D15)
  else
    td_b (F_X1_add p1 5 0 D2) fun _ D17 =>
    some (0, D17)
set_option maxHeartbeats 4000000 in
set_option maxRecDepth 20000 in
theorem S_X9_readLine (l : Launch) {E : tv_E} (hE : tv_hE E) (d : Nat) (p1 : Nat) (hp1 : tv_isCode p1) (D : td_D) : td_msim l E (d + 102) mX9_readLine g_c [tv_R 10, tv_R p1] D (F_X9_readLine p1 D) := by
  refine td_meetL (ls := [tv_R 10, tv_R p1, tv_U]) rfl (Nat.le_of_ble_eq_true rfl) rfl ?_
  unfold F_X9_readLine
  refine ts_aload_n (i := 0) rfl rfl dX9_readLine_0 ?_
  refine ts_aload_n (i := 1) rfl rfl dX9_readLine_1 ?_
  refine ts_iconst rfl dX9_readLine_2 ?_
  refine ts_iconst rfl dX9_readLine_3 ?_
  refine tq_callV (y2 := mX9_readRank) [tv_R p1, tv_I 0, tv_I 0] [] 10 (st' := fun _ => []) tw_X9_readRank tx_X9_readRank tw_c9 ga_c_10 tl_X9_39 rfl rfl rfl rfl (fun _ => rfl) dX9_readLine_4 (S_X9_readRank l hE _ p1 0 0 hp1 D) (fun r1 D2 => ?_)
  refine ts_aload_n (i := 0) rfl rfl dX9_readLine_7 ?_
  refine td_getI tl_X9_22 rfl ga_c_10 rfl dX9_readLine_8 ?_
  refine td_if_ne (tgt := 66) rfl dX9_readLine_11 ?_ ?_
  · refine ts_aload_n (i := 0) rfl rfl dX9_readLine_14 ?_
    refine tq_callV (y2 := mX9_sign) [] [] 10 (st' := fun r3 => [tv_I r3]) tw_X9_sign tx_X9_sign tw_c9 ga_c_10 tl_X9_35 rfl rfl rfl rfl (fun _ => rfl) dX9_readLine_15 (S_X9_sign l hE _ D2) (fun r3 D4 => ?_)
    refine ts_bipush rfl dX9_readLine_18 ?_
    refine td_icmp_ne (tgt := 66) rfl dX9_readLine_20 ?_ ?_
    · refine ts_aload_n (i := 0) rfl rfl dX9_readLine_23 ?_
      refine ts_dupR dX9_readLine_24 ?_
      refine td_getI tl_X9_19 rfl ga_c_10 rfl dX9_readLine_25 ?_
      refine ts_iconst rfl dX9_readLine_28 ?_
      refine ts_iadd dX9_readLine_29 ?_
      refine td_putI tf_X9_19 (by intro h; cases h) rfl ga_c_10 rfl dX9_readLine_30 ?_
      refine td_let (fun D5 => ?_)
      refine ts_aload_n (i := 1) rfl rfl dX9_readLine_33 ?_
      refine td_getI tl_X9_26 rfl hp1.1 hp1.2.2.2.2 dX9_readLine_34 ?_
      refine tq_istore_n [tv_R 10, tv_R p1, tv_I (D5 p1 3)] rfl (Nat.le_of_ble_eq_true rfl) rfl rfl dX9_readLine_37 ?_
      refine ts_aload_n (i := 1) rfl rfl dX9_readLine_38 ?_
      refine ts_bipush rfl dX9_readLine_39 ?_
      refine ts_iconst rfl dX9_readLine_41 ?_
      refine tq_callV (y2 := mX1_add) [tv_I 6, tv_I 0] [] p1 (st' := fun _ => []) tw_X1_add tx_X1_add tw_c1 hp1.1 tl_X9_43 rfl rfl rfl rfl (fun _ => rfl) dX9_readLine_42 (S_X1_add l hE _ p1 6 0 hp1 D5) (fun r6 D7 => ?_)
      refine ts_aload_n (i := 0) rfl rfl dX9_readLine_45 ?_
      refine ts_aload_n (i := 1) rfl rfl dX9_readLine_46 ?_
      refine ts_iconst rfl dX9_readLine_47 ?_
      refine ts_iconst rfl dX9_readLine_48 ?_
      refine tq_callV (y2 := mX9_readRank) [tv_R p1, tv_I 0, tv_I 0] [] 10 (st' := fun _ => []) tw_X9_readRank tx_X9_readRank tw_c9 ga_c_10 tl_X9_39 rfl rfl rfl rfl (fun _ => rfl) dX9_readLine_49 (S_X9_readRank l hE _ p1 0 0 hp1 D7) (fun r8 D9 => ?_)
      refine ts_aload_n (i := 1) rfl rfl dX9_readLine_52 ?_
      refine ts_iconst rfl dX9_readLine_53 ?_
      refine ts_iconst rfl dX9_readLine_54 ?_
      refine tq_callV (y2 := mX1_add) [tv_I 5, tv_I 0] [] p1 (st' := fun _ => []) tw_X1_add tx_X1_add tw_c1 hp1.1 tl_X9_43 rfl rfl rfl rfl (fun _ => rfl) dX9_readLine_55 (S_X1_add l hE _ p1 5 0 hp1 D9) (fun r10 D11 => ?_)
      refine ts_aload_n (i := 1) rfl rfl dX9_readLine_58 ?_
      refine ts_iload_n (i := 2) rfl rfl dX9_readLine_59 ?_
      refine tq_callV (y2 := mX1_landHere) [tv_I (D5 p1 3)] [] p1 (st' := fun _ => []) tw_X1_landHere tx_X1_landHere tw_c1 hp1.1 tl_X9_47 rfl rfl rfl rfl (fun _ => rfl) dX9_readLine_60 (S_X1_landHere l hE _ p1 (D5 p1 3) hp1 D11) (fun r12 D13 => ?_)
      refine ts_goto (tgt := 72) rfl dX9_readLine_63 ?_
      exact td_vret rfl dX9_readLine_72
    · refine ts_aload_n (i := 1) rfl rfl dX9_readLine_66 ?_
      refine ts_iconst rfl dX9_readLine_67 ?_
      refine ts_iconst rfl dX9_readLine_68 ?_
      refine tq_callV (y2 := mX1_add) [tv_I 5, tv_I 0] [] p1 (st' := fun _ => []) tw_X1_add tx_X1_add tw_c1 hp1.1 tl_X9_43 rfl rfl rfl rfl (fun _ => rfl) dX9_readLine_69 (S_X1_add l hE _ p1 5 0 hp1 D4) (fun r14 D15 => ?_)
      exact td_vret rfl dX9_readLine_72
  · refine ts_aload_n (i := 1) rfl rfl dX9_readLine_66 ?_
    refine ts_iconst rfl dX9_readLine_67 ?_
    refine ts_iconst rfl dX9_readLine_68 ?_
    refine tq_callV (y2 := mX1_add) [tv_I 5, tv_I 0] [] p1 (st' := fun _ => []) tw_X1_add tx_X1_add tw_c1 hp1.1 tl_X9_43 rfl rfl rfl rfl (fun _ => rfl) dX9_readLine_69 (S_X1_add l hE _ p1 5 0 hp1 D2) (fun r16 D17 => ?_)
    exact td_vret rfl dX9_readLine_72
def F_X9_readInto_65 (D : td_D) : Option (Int × td_D) :=
  if D 10 3 = 0 then
    if D 10 1 ≤ D 10 2 then
      some ((-1), D)
    else
      some (D 10 2, D)
  else
    some (D 10 2, D)
set_option maxHeartbeats 4000000 in
set_option maxRecDepth 20000 in
theorem S_X9_readInto_65 {l : Launch} {E : tv_E} (hE : tv_hE E) (d : Nat) (D : td_D) : td_sim l E (d + 103) mX9_readInto g_c 65 [tv_R 10, tv_U, tv_U] [] D (F_X9_readInto_65 D) := by
  unfold F_X9_readInto_65
  refine ts_aload_n (i := 0) rfl rfl dX9_readInto_65 ?_
  refine td_getI tl_X9_22 rfl ga_c_10 rfl dX9_readInto_66 ?_
  refine td_if_ne (tgt := 83) rfl dX9_readInto_69 ?_ ?_
  · refine ts_aload_n (i := 0) rfl rfl dX9_readInto_72 ?_
    refine td_getI tl_X9_19 rfl ga_c_10 rfl dX9_readInto_73 ?_
    refine ts_aload_n (i := 0) rfl rfl dX9_readInto_76 ?_
    refine td_getI tl_X9_15 rfl ga_c_10 rfl dX9_readInto_77 ?_
    refine td_icmp_ge (tgt := 90) rfl dX9_readInto_80 ?_ ?_
    · refine ts_iconst rfl dX9_readInto_90 ?_
      exact td_iret rfl dX9_readInto_91
    · refine ts_aload_n (i := 0) rfl rfl dX9_readInto_83 ?_
      refine td_getI tl_X9_19 rfl ga_c_10 rfl dX9_readInto_84 ?_
      refine ts_goto (tgt := 91) rfl dX9_readInto_87 ?_
      exact td_iret rfl dX9_readInto_91
  · refine ts_aload_n (i := 0) rfl rfl dX9_readInto_83 ?_
    refine td_getI tl_X9_19 rfl ga_c_10 rfl dX9_readInto_84 ?_
    refine ts_goto (tgt := 91) rfl dX9_readInto_87 ?_
    exact td_iret rfl dX9_readInto_91
def F_X9_readInto_22 : Nat → Nat → Int → td_D → Option (Int × td_D)
  | 0, _, _, _ => none
  | n + 1, v1, v2, D =>
    if 120 ≤ v2 then
      F_X9_readInto_65 D
    else
      if D 10 3 = 0 then
        td_b (F_X9_sign D) fun r1 D2 =>
        if r1 = 59 then
          td_l (td_upd D2 10 2 (tv_w ((D2 10 2) + 1))) fun D3 =>
          td_b (F_X9_readLine v1 D3) fun _ D5 =>
          F_X9_readInto_22 n v1 (tv_w (v2 + 1)) D5
        else
          F_X9_readInto_65 D2
      else
        F_X9_readInto_65 D
set_option maxHeartbeats 4000000 in
set_option maxRecDepth 20000 in
theorem S_X9_readInto_22 {l : Launch} {E : tv_E} (hE : tv_hE E) (d : Nat) : ∀ (n : Nat) (v1 : Nat) (v2 : Int) (D : td_D), tv_isCode v1 → td_sim l E (d + 103) mX9_readInto g_c 22 [tv_R 10, tv_R v1, tv_I v2] [] D (F_X9_readInto_22 n v1 v2 D) := by
  intro n
  induction n with
  | zero => intros; exact tv_none
  | succ n ih =>
    intro v1 v2 D hv1
    show td_sim _ _ _ _ _ _ _ _ _ (F_X9_readInto_22 (n + 1) v1 v2 D)
    unfold F_X9_readInto_22
    refine ts_iload_n (i := 2) rfl rfl dX9_readInto_22 ?_
    refine ts_bipush rfl dX9_readInto_23 ?_
    refine td_icmp_ge (tgt := 65) rfl dX9_readInto_25 ?_ ?_
    · refine tv_weak (ls' := [tv_R 10, tv_U, tv_U]) ⟨Or.inr rfl, Or.inl rfl, Or.inl rfl, trivial⟩ ?_
      exact S_X9_readInto_65 hE d D
    · refine ts_aload_n (i := 0) rfl rfl dX9_readInto_28 ?_
      refine td_getI tl_X9_22 rfl ga_c_10 rfl dX9_readInto_29 ?_
      refine td_if_ne (tgt := 65) rfl dX9_readInto_32 ?_ ?_
      · refine ts_aload_n (i := 0) rfl rfl dX9_readInto_35 ?_
        refine tq_callV (y2 := mX9_sign) [] [] 10 (st' := fun r1 => [tv_I r1]) tw_X9_sign tx_X9_sign tw_c9 ga_c_10 tl_X9_35 rfl rfl rfl rfl (fun _ => rfl) dX9_readInto_36 (S_X9_sign l hE _ D) (fun r1 D2 => ?_)
        refine ts_bipush rfl dX9_readInto_39 ?_
        refine td_icmp_ne (tgt := 65) rfl dX9_readInto_41 ?_ ?_
        · refine ts_aload_n (i := 0) rfl rfl dX9_readInto_44 ?_
          refine ts_dupR dX9_readInto_45 ?_
          refine td_getI tl_X9_19 rfl ga_c_10 rfl dX9_readInto_46 ?_
          refine ts_iconst rfl dX9_readInto_49 ?_
          refine ts_iadd dX9_readInto_50 ?_
          refine td_putI tf_X9_19 (by intro h; cases h) rfl ga_c_10 rfl dX9_readInto_51 ?_
          refine td_let (fun D3 => ?_)
          refine ts_aload_n (i := 0) rfl rfl dX9_readInto_54 ?_
          refine ts_aload_n (i := 1) rfl rfl dX9_readInto_55 ?_
          refine tq_callV (y2 := mX9_readLine) [tv_R v1] [] 10 (st' := fun _ => []) tw_X9_readLine tx_X9_readLine tw_c9 ga_c_10 tl_X9_31 rfl rfl rfl rfl (fun _ => rfl) dX9_readInto_56 (S_X9_readLine l hE _ v1 hv1 D3) (fun r4 D5 => ?_)
          refine tq_iinc [tv_R 10, tv_R v1, tv_I (tv_w (v2 + 1))] rfl rfl rfl dX9_readInto_59 ?_
          refine ts_goto (tgt := 22) rfl dX9_readInto_62 ?_
          exact ih v1 (tv_w (v2 + 1)) D5 hv1
        · refine tv_weak (ls' := [tv_R 10, tv_U, tv_U]) ⟨Or.inr rfl, Or.inl rfl, Or.inl rfl, trivial⟩ ?_
          exact S_X9_readInto_65 hE d D2
      · refine tv_weak (ls' := [tv_R 10, tv_U, tv_U]) ⟨Or.inr rfl, Or.inl rfl, Or.inl rfl, trivial⟩ ?_
        exact S_X9_readInto_65 hE d D
def F_X9_readInto (p1 : Nat) (D : td_D) : Option (Int × td_D) :=
  td_l (td_upd D 10 2 0) fun D6 =>
  td_l (td_upd D6 10 3 0) fun D7 =>
  td_l (td_upd D7 p1 3 0) fun D8 =>
  td_b (F_X9_readLine p1 D8) fun _ D10 =>
  F_X9_readInto_22 tf_N p1 0 D10
set_option maxHeartbeats 4000000 in
set_option maxRecDepth 20000 in
theorem S_X9_readInto (l : Launch) {E : tv_E} (hE : tv_hE E) (d : Nat) (p1 : Nat) (hp1 : tv_isCode p1) (D : td_D) : td_msim l E (d + 103) mX9_readInto g_c [tv_R 10, tv_R p1] D (F_X9_readInto p1 D) := by
  refine td_meetL (ls := [tv_R 10, tv_R p1, tv_U]) rfl (Nat.le_of_ble_eq_true rfl) rfl ?_
  unfold F_X9_readInto
  refine ts_aload_n (i := 0) rfl rfl dX9_readInto_0 ?_
  refine ts_iconst rfl dX9_readInto_1 ?_
  refine td_putI tf_X9_19 (by intro h; cases h) rfl ga_c_10 rfl dX9_readInto_2 ?_
  refine td_let (fun D6 => ?_)
  refine ts_aload_n (i := 0) rfl rfl dX9_readInto_5 ?_
  refine ts_iconst rfl dX9_readInto_6 ?_
  refine td_putZ tf_X9_22 (by intro h; cases h) rfl ga_c_10 rfl (Or.inl rfl) dX9_readInto_7 ?_
  refine td_let (fun D7 => ?_)
  refine ts_aload_n (i := 1) rfl rfl dX9_readInto_10 ?_
  refine ts_iconst rfl dX9_readInto_11 ?_
  refine td_putI tf_X9_26 (by intro h; cases h) rfl hp1.1 hp1.2.2.2.2 dX9_readInto_12 ?_
  refine td_let (fun D8 => ?_)
  refine ts_aload_n (i := 0) rfl rfl dX9_readInto_15 ?_
  refine ts_aload_n (i := 1) rfl rfl dX9_readInto_16 ?_
  refine tq_callV (y2 := mX9_readLine) [tv_R p1] [] 10 (st' := fun _ => []) tw_X9_readLine tx_X9_readLine tw_c9 ga_c_10 tl_X9_31 rfl rfl rfl rfl (fun _ => rfl) dX9_readInto_17 (S_X9_readLine l hE _ p1 hp1 D8) (fun r9 D10 => ?_)
  refine ts_iconst rfl dX9_readInto_20 ?_
  refine tq_istore_n [tv_R 10, tv_R p1, tv_I 0] rfl (Nat.le_of_ble_eq_true rfl) rfl rfl dX9_readInto_21 ?_
  exact S_X9_readInto_22 hE d tf_N p1 0 D10 hp1
def F_X11_law (D : td_D) : Option (Int × td_D) :=
  if D 1 3 = 12 ∨ D 1 3 = 16 then
    td_b (F_X9_readInto ((D 1 3).toNat) D) fun r2 D3 =>
    td_l (td_upd D3 10 1 0) fun D4 =>
    if r2 < 0 then
      if D4 1 2 = 12 ∨ D4 1 2 = 16 then
        if D4 1 3 = 12 ∨ D4 1 3 = 16 then
          td_l (td_upd D4 1 2 ((((D4 1 3).toNat : Nat) : Int))) fun D7 =>
          td_l (td_upd D7 1 3 ((((D4 1 2).toNat : Nat) : Int))) fun D8 =>
          some (1, D8)
        else none
      else none
    else
      some (tv_w (((-100)) - r2), D4)
  else none
set_option maxHeartbeats 4000000 in
set_option maxRecDepth 20000 in
theorem S_X11_law (l : Launch) {E : tv_E} (hE : tv_hE E) (d : Nat) (D : td_D) : td_msim l E (d + 104) mX11_law g_c [tv_R 1] D (F_X11_law D) := by
  refine td_meetL (ls := [tv_R 1, tv_U, tv_U]) rfl (Nat.le_of_ble_eq_true rfl) rfl ?_
  unfold F_X11_law
  refine ts_aload_n (i := 0) rfl rfl dX11_law_0 ?_
  refine td_getR (q := 10) tl_X11_19 rfl ga_c_1 rfl dX11_law_1 ?_
  refine ts_aload_n (i := 0) rfl rfl dX11_law_4 ?_
  refine td_getV tl_X11_30 rfl ga_c_1 rfl dX11_law_5 ?_
  refine td_guard (fun h1 => ?_)
  refine tq_callV (y2 := mX9_readInto) [tv_R ((D 1 3).toNat)] [] 10 (st' := fun r2 => [tv_I r2]) tw_X9_readInto tx_X9_readInto tw_c9 ga_c_10 tl_X11_165 rfl rfl rfl rfl (fun _ => rfl) dX11_law_8 (S_X9_readInto l hE _ ((D 1 3).toNat) (is_code_of h1) D) (fun r2 D3 => ?_)
  refine tq_istore_n [tv_R 1, tv_I r2, tv_U] rfl (Nat.le_of_ble_eq_true rfl) rfl rfl dX11_law_11 ?_
  refine ts_aload_n (i := 0) rfl rfl dX11_law_12 ?_
  refine td_getR (q := 10) tl_X11_19 rfl ga_c_1 rfl dX11_law_13 ?_
  refine ts_iconst rfl dX11_law_16 ?_
  refine td_putI tf_X11_159 (by intro h; cases h) rfl ga_c_10 rfl dX11_law_17 ?_
  refine td_let (fun D4 => ?_)
  refine ts_iload_n (i := 1) rfl rfl dX11_law_20 ?_
  refine td_if_lt (tgt := 29) rfl dX11_law_21 ?_ ?_
  · refine ts_aload_n (i := 0) rfl rfl dX11_law_29 ?_
    refine td_getV tl_X11_26 rfl ga_c_1 rfl dX11_law_30 ?_
    refine td_guard (fun h5 => ?_)
    refine tq_astore_n [tv_R 1, tv_I r2, tv_R ((D4 1 2).toNat)] rfl (Nat.le_of_ble_eq_true rfl) rfl ((code_pos h5).1) rfl dX11_law_33 ?_
    refine ts_aload_n (i := 0) rfl rfl dX11_law_34 ?_
    refine ts_aload_n (i := 0) rfl rfl dX11_law_35 ?_
    refine td_getV tl_X11_30 rfl ga_c_1 rfl dX11_law_36 ?_
    refine td_guard (fun h6 => ?_)
    refine td_putV tf_X11_26 (by intro h; cases h) rfl rfl (fun _ => ⟨rfl, rfl⟩) ga_c_1 rfl (code_pos h6) dX11_law_39 ?_
    refine td_let (fun D7 => ?_)
    refine ts_aload_n (i := 0) rfl rfl dX11_law_42 ?_
    refine ts_aload_n (i := 2) rfl rfl dX11_law_43 ?_
    refine td_putV tf_X11_30 (by intro h; cases h) rfl rfl (fun _ => ⟨rfl, rfl⟩) ga_c_1 rfl (code_pos h5) dX11_law_44 ?_
    refine td_let (fun D8 => ?_)
    refine ts_iconst rfl dX11_law_47 ?_
    exact td_iret rfl dX11_law_48
  · refine ts_bipush rfl dX11_law_24 ?_
    refine ts_iload_n (i := 1) rfl rfl dX11_law_26 ?_
    refine ts_isub dX11_law_27 ?_
    exact td_iret rfl dX11_law_28
def F_X12_line_66 (v1 : Int) (D : td_D) : Option (Int × td_D) :=
  if 0 ≤ v1 ∧ v1 < ((122 : Nat) : Int) then
    td_l (td_upd D 18 (Int.toNat v1) (tv_i2s (tv_i2s (D 1 22)))) fun D2 =>
    td_l (td_upd D2 16 (Int.toNat 1) (tv_w ((D2 16 (Int.toNat 1)) + 1))) fun D3 =>
    some (0, D3)
  else none
set_option maxHeartbeats 4000000 in
set_option maxRecDepth 20000 in
theorem S_X12_line_66 {l : Launch} {E : tv_E} (hE : tv_hE E) (d : Nat) (v1 : Int) (D : td_D) : td_sim l E (d + 102) mX12_line g_m 66 [tv_R 1, tv_I v1] [] D (F_X12_line_66 v1 D) := by
  unfold F_X12_line_66
  refine ts_aload_n (i := 0) rfl rfl dX12_line_66 ?_
  refine td_getR (q := 18) tl_X12_60 rfl ga_m_1 rfl dX12_line_67 ?_
  refine ts_iload_n (i := 1) rfl rfl dX12_line_70 ?_
  refine ts_aload_n (i := 0) rfl rfl dX12_line_71 ?_
  refine td_getI tl_X12_215 rfl ga_m_1 rfl dX12_line_72 ?_
  refine ts_i2s dX12_line_75 ?_
  refine td_guard (fun h1 => ?_)
  refine td_sastK ga_m_18 (gn_m_18 _) h1 dX12_line_76 ?_
  refine td_let (fun D2 => ?_)
  refine ts_aload_n (i := 0) rfl rfl dX12_line_77 ?_
  refine td_getR (q := 16) tl_X12_53 rfl ga_m_1 rfl dX12_line_78 ?_
  refine ts_iconst rfl dX12_line_81 ?_
  refine ts_dup2 dX12_line_82 ?_
  refine td_ialdK ga_m_16 (gn_m_16 _) ⟨by decide, by decide⟩ dX12_line_83 ?_
  refine ts_iconst rfl dX12_line_84 ?_
  refine ts_iadd dX12_line_85 ?_
  refine td_iastK ga_m_16 (gn_m_16 _) ⟨by decide, by decide⟩ dX12_line_86 ?_
  refine td_let (fun D3 => ?_)
  exact td_vret rfl dX12_line_87
def F_X12_line (D : td_D) : Option (Int × td_D) :=
  if 0 ≤ tv_w (61 + (D 16 (Int.toNat 1))) ∧ tv_w (61 + (D 16 (Int.toNat 1))) < ((122 : Nat) : Int) then
    td_l (td_upd D 17 (Int.toNat (tv_w (61 + (D 16 (Int.toNat 1))))) (tv_i2s (tv_i2s (D 1 22)))) fun D5 =>
    td_b (F_X12_either D5) fun _ D7 =>
    if 0 ≤ D7 1 20 then
      F_X12_line_66 (tv_w (61 + (D 16 (Int.toNat 1)))) D7
    else
      td_b (F_X12_look D7) fun r8 D9 =>
      if r8 = 63 then
        td_l (td_upd D9 1 19 (tv_w ((D9 1 19) + 1))) fun D10 =>
        td_l (td_upd D10 17 (Int.toNat (tv_w (61 + (D 16 (Int.toNat 1))))) (tv_i2s (tv_i2s (D10 1 22)))) fun D11 =>
        td_b (F_X12_either D11) fun _ D13 =>
        F_X12_line_66 (tv_w (61 + (D 16 (Int.toNat 1)))) D13
      else
        F_X12_line_66 (tv_w (61 + (D 16 (Int.toNat 1)))) D9
  else none
set_option maxHeartbeats 4000000 in
set_option maxRecDepth 20000 in
theorem S_X12_line (l : Launch) {E : tv_E} (hE : tv_hE E) (d : Nat) (D : td_D) : td_msim l E (d + 102) mX12_line g_m [tv_R 1] D (F_X12_line D) := by
  refine td_meetL (ls := [tv_R 1, tv_U]) rfl (Nat.le_of_ble_eq_true rfl) rfl ?_
  unfold F_X12_line
  refine ts_bipush rfl dX12_line_0 ?_
  refine ts_aload_n (i := 0) rfl rfl dX12_line_2 ?_
  refine td_getR (q := 16) tl_X12_53 rfl ga_m_1 rfl dX12_line_3 ?_
  refine ts_iconst rfl dX12_line_6 ?_
  refine td_ialdK ga_m_16 (gn_m_16 _) ⟨by decide, by decide⟩ dX12_line_7 ?_
  refine ts_iadd dX12_line_8 ?_
  refine tq_istore_n [tv_R 1, tv_I (tv_w (61 + (D 16 (Int.toNat 1))))] rfl (Nat.le_of_ble_eq_true rfl) rfl rfl dX12_line_9 ?_
  refine ts_aload_n (i := 0) rfl rfl dX12_line_10 ?_
  refine td_getR (q := 17) tl_X12_56 rfl ga_m_1 rfl dX12_line_11 ?_
  refine ts_iload_n (i := 1) rfl rfl dX12_line_14 ?_
  refine ts_aload_n (i := 0) rfl rfl dX12_line_15 ?_
  refine td_getI tl_X12_215 rfl ga_m_1 rfl dX12_line_16 ?_
  refine ts_i2s dX12_line_19 ?_
  refine td_guard (fun h4 => ?_)
  refine td_sastK ga_m_17 (gn_m_17 _) h4 dX12_line_20 ?_
  refine td_let (fun D5 => ?_)
  refine ts_aload_n (i := 0) rfl rfl dX12_line_21 ?_
  refine tq_callV (y2 := mX12_either) [] [] 1 (st' := fun _ => []) tw_X12_either tx_X12_either tw_c12 ga_m_1 tl_X12_243 rfl rfl rfl rfl (fun _ => rfl) dX12_line_22 (S_X12_either l hE _ D5) (fun r6 D7 => ?_)
  refine ts_aload_n (i := 0) rfl rfl dX12_line_25 ?_
  refine td_getI tl_X12_212 rfl ga_m_1 rfl dX12_line_26 ?_
  refine td_if_ge (tgt := 66) rfl dX12_line_29 ?_ ?_
  · exact S_X12_line_66 hE d (tv_w (61 + (D 16 (Int.toNat 1)))) D7
  · refine ts_aload_n (i := 0) rfl rfl dX12_line_32 ?_
    refine tq_callV (y2 := mX12_look) [] [] 1 (st' := fun r8 => [tv_I r8]) tw_X12_look tx_X12_look tw_c12 ga_m_1 tl_X12_224 rfl rfl rfl rfl (fun _ => rfl) dX12_line_33 (S_X12_look l hE _ D7) (fun r8 D9 => ?_)
    refine ts_bipush rfl dX12_line_36 ?_
    refine td_icmp_ne (tgt := 66) rfl dX12_line_38 ?_ ?_
    · refine ts_aload_n (i := 0) rfl rfl dX12_line_41 ?_
      refine ts_dupR dX12_line_42 ?_
      refine td_getI tl_X12_209 rfl ga_m_1 rfl dX12_line_43 ?_
      refine ts_iconst rfl dX12_line_46 ?_
      refine ts_iadd dX12_line_47 ?_
      refine td_putI tf_X12_209 (by intro h; cases h) rfl ga_m_1 rfl dX12_line_48 ?_
      refine td_let (fun D10 => ?_)
      refine ts_aload_n (i := 0) rfl rfl dX12_line_51 ?_
      refine td_getR (q := 17) tl_X12_56 rfl ga_m_1 rfl dX12_line_52 ?_
      refine ts_iload_n (i := 1) rfl rfl dX12_line_55 ?_
      refine ts_aload_n (i := 0) rfl rfl dX12_line_56 ?_
      refine td_getI tl_X12_215 rfl ga_m_1 rfl dX12_line_57 ?_
      refine ts_i2s dX12_line_60 ?_
      refine td_sastK ga_m_17 (gn_m_17 _) h4 dX12_line_61 ?_
      refine td_let (fun D11 => ?_)
      refine ts_aload_n (i := 0) rfl rfl dX12_line_62 ?_
      refine tq_callV (y2 := mX12_either) [] [] 1 (st' := fun _ => []) tw_X12_either tx_X12_either tw_c12 ga_m_1 tl_X12_243 rfl rfl rfl rfl (fun _ => rfl) dX12_line_63 (S_X12_either l hE _ D11) (fun r12 D13 => ?_)
      exact S_X12_line_66 hE d (tv_w (61 + (D 16 (Int.toNat 1)))) D13
    · exact S_X12_line_66 hE d (tv_w (61 + (D 16 (Int.toNat 1)))) D9
def F_X12_readText_177 : Nat → Int → Int → td_D → Option (Int × td_D)
  | 0, _, _, _ => none
  | n + 1, v1, v2, D =>
    if 0 ≤ v1 ∧ v1 < ((2 : Nat) : Int) then
      if D 16 (Int.toNat v1) ≤ v2 then
        some ((-1), D)
      else
        if 0 ≤ tv_w (61 + v2) ∧ tv_w (61 + v2) < ((122 : Nat) : Int) then
          if 0 ≤ tv_w ((tv_w (61 * v1)) + v2) ∧ tv_w ((tv_w (61 * v1)) + v2) < ((122 : Nat) : Int) then
            td_l (td_upd D 17 (Int.toNat (tv_w ((tv_w (61 * v1)) + v2))) (tv_i2s (D 17 (Int.toNat (tv_w (61 + v2)))))) fun D4 =>
            td_l (td_upd D4 18 (Int.toNat (tv_w ((tv_w (61 * v1)) + v2))) (tv_i2s (D4 18 (Int.toNat (tv_w (61 + v2)))))) fun D5 =>
            F_X12_readText_177 n v1 (tv_w (v2 + 1)) D5
          else none
        else none
    else none
set_option maxHeartbeats 4000000 in
set_option maxRecDepth 20000 in
theorem S_X12_readText_177 {l : Launch} {E : tv_E} (hE : tv_hE E) (d : Nat) : ∀ (n : Nat) (v1 : Int) (v2 : Int) (D : td_D), td_sim l E (d + 103) mX12_readText g_m 177 [tv_R 1, tv_I v1, tv_I v2] [] D (F_X12_readText_177 n v1 v2 D) := by
  intro n
  induction n with
  | zero => intros; exact tv_none
  | succ n ih =>
    intro v1 v2 D
    show td_sim _ _ _ _ _ _ _ _ _ (F_X12_readText_177 (n + 1) v1 v2 D)
    unfold F_X12_readText_177
    refine ts_iload_n (i := 2) rfl rfl dX12_readText_177 ?_
    refine ts_aload_n (i := 0) rfl rfl dX12_readText_178 ?_
    refine td_getR (q := 16) tl_X12_53 rfl ga_m_1 rfl dX12_readText_179 ?_
    refine ts_iload_n (i := 1) rfl rfl dX12_readText_182 ?_
    refine td_guard (fun h1 => ?_)
    refine td_ialdK ga_m_16 (gn_m_16 _) h1 dX12_readText_183 ?_
    refine td_icmp_ge (tgt := 233) rfl dX12_readText_184 ?_ ?_
    · refine ts_iconst rfl dX12_readText_233 ?_
      exact td_iret rfl dX12_readText_234
    · refine ts_aload_n (i := 0) rfl rfl dX12_readText_187 ?_
      refine td_getR (q := 17) tl_X12_56 rfl ga_m_1 rfl dX12_readText_188 ?_
      refine ts_bipush rfl dX12_readText_191 ?_
      refine ts_iload_n (i := 1) rfl rfl dX12_readText_193 ?_
      refine ts_imul dX12_readText_194 ?_
      refine ts_iload_n (i := 2) rfl rfl dX12_readText_195 ?_
      refine ts_iadd dX12_readText_196 ?_
      refine ts_aload_n (i := 0) rfl rfl dX12_readText_197 ?_
      refine td_getR (q := 17) tl_X12_56 rfl ga_m_1 rfl dX12_readText_198 ?_
      refine ts_bipush rfl dX12_readText_201 ?_
      refine ts_iload_n (i := 2) rfl rfl dX12_readText_203 ?_
      refine ts_iadd dX12_readText_204 ?_
      refine td_guard (fun h2 => ?_)
      refine td_saldK ga_m_17 (gn_m_17 _) h2 dX12_readText_205 ?_
      refine td_guard (fun h3 => ?_)
      refine td_sastK ga_m_17 (gn_m_17 _) h3 dX12_readText_206 ?_
      refine td_let (fun D4 => ?_)
      refine ts_aload_n (i := 0) rfl rfl dX12_readText_207 ?_
      refine td_getR (q := 18) tl_X12_60 rfl ga_m_1 rfl dX12_readText_208 ?_
      refine ts_bipush rfl dX12_readText_211 ?_
      refine ts_iload_n (i := 1) rfl rfl dX12_readText_213 ?_
      refine ts_imul dX12_readText_214 ?_
      refine ts_iload_n (i := 2) rfl rfl dX12_readText_215 ?_
      refine ts_iadd dX12_readText_216 ?_
      refine ts_aload_n (i := 0) rfl rfl dX12_readText_217 ?_
      refine td_getR (q := 18) tl_X12_60 rfl ga_m_1 rfl dX12_readText_218 ?_
      refine ts_bipush rfl dX12_readText_221 ?_
      refine ts_iload_n (i := 2) rfl rfl dX12_readText_223 ?_
      refine ts_iadd dX12_readText_224 ?_
      refine td_saldK ga_m_18 (gn_m_18 _) h2 dX12_readText_225 ?_
      refine td_sastK ga_m_18 (gn_m_18 _) h3 dX12_readText_226 ?_
      refine td_let (fun D5 => ?_)
      refine tq_iinc [tv_R 1, tv_I v1, tv_I (tv_w (v2 + 1))] rfl rfl rfl dX12_readText_227 ?_
      refine ts_goto (tgt := 177) rfl dX12_readText_230 ?_
      exact ih v1 (tv_w (v2 + 1)) D5
def F_X12_readText_105 : Nat → Int → Int → td_D → Option (Int × td_D)
  | 0, _, _, _ => none
  | n + 1, v1, v2, D =>
    if D 1 22 ≤ v2 then
      if 0 ≤ v1 ∧ v1 < ((2 : Nat) : Int) then
        td_l (td_upd D 16 (Int.toNat v1) (D 16 (Int.toNat 1))) fun D7 =>
        F_X12_readText_177 tf_N v1 0 D7
      else none
    else
      if 0 ≤ tv_w (130 + v2) ∧ tv_w (130 + v2) < ((260 : Nat) : Int) then
        if 0 ≤ tv_w ((tv_w (130 * v1)) + v2) ∧ tv_w ((tv_w (130 * v1)) + v2) < ((260 : Nat) : Int) then
          td_l (td_upd D 14 (Int.toNat (tv_w ((tv_w (130 * v1)) + v2))) (tv_i2b (D 14 (Int.toNat (tv_w (130 + v2)))))) fun D10 =>
          td_l (td_upd D10 15 (Int.toNat (tv_w ((tv_w (130 * v1)) + v2))) (D10 15 (Int.toNat (tv_w (130 + v2))))) fun D11 =>
          F_X12_readText_105 n v1 (tv_w (v2 + 1)) D11
        else none
      else none
set_option maxHeartbeats 4000000 in
set_option maxRecDepth 20000 in
theorem S_X12_readText_105 {l : Launch} {E : tv_E} (hE : tv_hE E) (d : Nat) : ∀ (n : Nat) (v1 : Int) (v2 : Int) (D : td_D), td_sim l E (d + 103) mX12_readText g_m 105 [tv_R 1, tv_I v1, tv_I v2] [] D (F_X12_readText_105 n v1 v2 D) := by
  intro n
  induction n with
  | zero => intros; exact tv_none
  | succ n ih =>
    intro v1 v2 D
    show td_sim _ _ _ _ _ _ _ _ _ (F_X12_readText_105 (n + 1) v1 v2 D)
    unfold F_X12_readText_105
    refine ts_iload_n (i := 2) rfl rfl dX12_readText_105 ?_
    refine ts_aload_n (i := 0) rfl rfl dX12_readText_106 ?_
    refine td_getI tl_X12_215 rfl ga_m_1 rfl dX12_readText_107 ?_
    refine td_icmp_ge (tgt := 163) rfl dX12_readText_110 ?_ ?_
    · refine ts_aload_n (i := 0) rfl rfl dX12_readText_163 ?_
      refine td_getR (q := 16) tl_X12_53 rfl ga_m_1 rfl dX12_readText_164 ?_
      refine ts_iload_n (i := 1) rfl rfl dX12_readText_167 ?_
      refine ts_aload_n (i := 0) rfl rfl dX12_readText_168 ?_
      refine td_getR (q := 16) tl_X12_53 rfl ga_m_1 rfl dX12_readText_169 ?_
      refine ts_iconst rfl dX12_readText_172 ?_
      refine td_ialdK ga_m_16 (gn_m_16 _) ⟨by decide, by decide⟩ dX12_readText_173 ?_
      refine td_guard (fun h6 => ?_)
      refine td_iastK ga_m_16 (gn_m_16 _) h6 dX12_readText_174 ?_
      refine td_let (fun D7 => ?_)
      refine ts_iconst rfl dX12_readText_175 ?_
      refine tq_istore_n [tv_R 1, tv_I v1, tv_I 0] rfl (Nat.le_of_ble_eq_true rfl) rfl rfl dX12_readText_176 ?_
      exact S_X12_readText_177 hE d tf_N v1 0 D7
    · refine ts_aload_n (i := 0) rfl rfl dX12_readText_113 ?_
      refine td_getR (q := 14) tl_X12_47 rfl ga_m_1 rfl dX12_readText_114 ?_
      refine ts_sipush rfl dX12_readText_117 ?_
      refine ts_iload_n (i := 1) rfl rfl dX12_readText_120 ?_
      refine ts_imul dX12_readText_121 ?_
      refine ts_iload_n (i := 2) rfl rfl dX12_readText_122 ?_
      refine ts_iadd dX12_readText_123 ?_
      refine ts_aload_n (i := 0) rfl rfl dX12_readText_124 ?_
      refine td_getR (q := 14) tl_X12_47 rfl ga_m_1 rfl dX12_readText_125 ?_
      refine ts_sipush rfl dX12_readText_128 ?_
      refine ts_iload_n (i := 2) rfl rfl dX12_readText_131 ?_
      refine ts_iadd dX12_readText_132 ?_
      refine td_guard (fun h8 => ?_)
      refine td_baldK ga_m_14 (gn_m_14 _) h8 dX12_readText_133 ?_
      refine td_guard (fun h9 => ?_)
      refine td_bastK ga_m_14 (gn_m_14 _) h9 dX12_readText_134 ?_
      refine td_let (fun D10 => ?_)
      refine ts_aload_n (i := 0) rfl rfl dX12_readText_135 ?_
      refine td_getR (q := 15) tl_X12_50 rfl ga_m_1 rfl dX12_readText_136 ?_
      refine ts_sipush rfl dX12_readText_139 ?_
      refine ts_iload_n (i := 1) rfl rfl dX12_readText_142 ?_
      refine ts_imul dX12_readText_143 ?_
      refine ts_iload_n (i := 2) rfl rfl dX12_readText_144 ?_
      refine ts_iadd dX12_readText_145 ?_
      refine ts_aload_n (i := 0) rfl rfl dX12_readText_146 ?_
      refine td_getR (q := 15) tl_X12_50 rfl ga_m_1 rfl dX12_readText_147 ?_
      refine ts_sipush rfl dX12_readText_150 ?_
      refine ts_iload_n (i := 2) rfl rfl dX12_readText_153 ?_
      refine ts_iadd dX12_readText_154 ?_
      refine td_ialdK ga_m_15 (gn_m_15 _) h8 dX12_readText_155 ?_
      refine td_iastK ga_m_15 (gn_m_15 _) h9 dX12_readText_156 ?_
      refine td_let (fun D11 => ?_)
      refine tq_iinc [tv_R 1, tv_I v1, tv_I (tv_w (v2 + 1))] rfl rfl rfl dX12_readText_157 ?_
      refine ts_goto (tgt := 105) rfl dX12_readText_160 ?_
      exact ih v1 (tv_w (v2 + 1)) D11
def F_X12_readText_86 (v1 : Int) (D : td_D) : Option (Int × td_D) :=
  td_l (td_upd D 1 18 0) fun D12 =>
  if D12 1 20 < 0 then
    F_X12_readText_105 tf_N v1 0 D12
  else
    some (D12 1 20, D12)
set_option maxHeartbeats 4000000 in
set_option maxRecDepth 20000 in
theorem S_X12_readText_86 {l : Launch} {E : tv_E} (hE : tv_hE E) (d : Nat) (v1 : Int) (D : td_D) : td_sim l E (d + 103) mX12_readText g_m 86 [tv_R 1, tv_I v1, tv_U] [] D (F_X12_readText_86 v1 D) := by
  unfold F_X12_readText_86
  refine ts_aload_n (i := 0) rfl rfl dX12_readText_86 ?_
  refine ts_iconst rfl dX12_readText_87 ?_
  refine td_putI tf_X12_206 (by intro h; cases h) rfl ga_m_1 rfl dX12_readText_88 ?_
  refine td_let (fun D12 => ?_)
  refine ts_aload_n (i := 0) rfl rfl dX12_readText_91 ?_
  refine td_getI tl_X12_212 rfl ga_m_1 rfl dX12_readText_92 ?_
  refine td_if_lt (tgt := 103) rfl dX12_readText_95 ?_ ?_
  · refine ts_iconst rfl dX12_readText_103 ?_
    refine tq_istore_n [tv_R 1, tv_I v1, tv_I 0] rfl (Nat.le_of_ble_eq_true rfl) rfl rfl dX12_readText_104 ?_
    exact S_X12_readText_105 hE d tf_N v1 0 D12
  · refine ts_aload_n (i := 0) rfl rfl dX12_readText_98 ?_
    refine td_getI tl_X12_212 rfl ga_m_1 rfl dX12_readText_99 ?_
    exact td_iret rfl dX12_readText_102
def F_X12_readText_31 : Nat → Int → td_D → Option (Int × td_D)
  | 0, _, _ => none
  | n + 1, v1, D =>
    if 0 ≤ D 1 20 then
      if 0 ≤ D 1 20 then
        F_X12_readText_86 v1 D
      else
        if D 1 18 ≤ D 1 19 then
          F_X12_readText_86 v1 D
        else
          td_b (F_X12_wrong D) fun _ D14 =>
          F_X12_readText_86 v1 D14
    else
      td_b (F_X12_look D) fun r15 D16 =>
      if r15 = 59 then
        td_l (td_upd D16 1 19 (tv_w ((D16 1 19) + 1))) fun D17 =>
        td_b (F_X12_line D17) fun _ D19 =>
        F_X12_readText_31 n v1 D19
      else
        if 0 ≤ D16 1 20 then
          F_X12_readText_86 v1 D16
        else
          if D16 1 18 ≤ D16 1 19 then
            F_X12_readText_86 v1 D16
          else
            td_b (F_X12_wrong D16) fun _ D21 =>
            F_X12_readText_86 v1 D21
set_option maxHeartbeats 4000000 in
set_option maxRecDepth 20000 in
theorem S_X12_readText_31 {l : Launch} {E : tv_E} (hE : tv_hE E) (d : Nat) : ∀ (n : Nat) (v1 : Int) (D : td_D), td_sim l E (d + 103) mX12_readText g_m 31 [tv_R 1, tv_I v1, tv_U] [] D (F_X12_readText_31 n v1 D) := by
  intro n
  induction n with
  | zero => intros; exact tv_none
  | succ n ih =>
    intro v1 D
    show td_sim _ _ _ _ _ _ _ _ _ (F_X12_readText_31 (n + 1) v1 D)
    unfold F_X12_readText_31
    refine ts_aload_n (i := 0) rfl rfl dX12_readText_31 ?_
    refine td_getI tl_X12_212 rfl ga_m_1 rfl dX12_readText_32 ?_
    refine td_if_ge (tgt := 64) rfl dX12_readText_35 ?_ ?_
    · refine ts_aload_n (i := 0) rfl rfl dX12_readText_64 ?_
      refine td_getI tl_X12_212 rfl ga_m_1 rfl dX12_readText_65 ?_
      refine td_if_ge (tgt := 86) rfl dX12_readText_68 ?_ ?_
      · exact S_X12_readText_86 hE d v1 D
      · refine ts_aload_n (i := 0) rfl rfl dX12_readText_71 ?_
        refine td_getI tl_X12_209 rfl ga_m_1 rfl dX12_readText_72 ?_
        refine ts_aload_n (i := 0) rfl rfl dX12_readText_75 ?_
        refine td_getI tl_X12_206 rfl ga_m_1 rfl dX12_readText_76 ?_
        refine td_icmp_ge (tgt := 86) rfl dX12_readText_79 ?_ ?_
        · exact S_X12_readText_86 hE d v1 D
        · refine ts_aload_n (i := 0) rfl rfl dX12_readText_82 ?_
          refine tq_callV (y2 := mX12_wrong) [] [] 1 (st' := fun _ => []) tw_X12_wrong tx_X12_wrong tw_c12 ga_m_1 tl_X12_221 rfl rfl rfl rfl (fun _ => rfl) dX12_readText_83 (S_X12_wrong l hE _ D) (fun r13 D14 => ?_)
          exact S_X12_readText_86 hE d v1 D14
    · refine ts_aload_n (i := 0) rfl rfl dX12_readText_38 ?_
      refine tq_callV (y2 := mX12_look) [] [] 1 (st' := fun r15 => [tv_I r15]) tw_X12_look tx_X12_look tw_c12 ga_m_1 tl_X12_224 rfl rfl rfl rfl (fun _ => rfl) dX12_readText_39 (S_X12_look l hE _ D) (fun r15 D16 => ?_)
      refine ts_bipush rfl dX12_readText_42 ?_
      refine td_icmp_ne (tgt := 64) rfl dX12_readText_44 ?_ ?_
      · refine ts_aload_n (i := 0) rfl rfl dX12_readText_47 ?_
        refine ts_dupR dX12_readText_48 ?_
        refine td_getI tl_X12_209 rfl ga_m_1 rfl dX12_readText_49 ?_
        refine ts_iconst rfl dX12_readText_52 ?_
        refine ts_iadd dX12_readText_53 ?_
        refine td_putI tf_X12_209 (by intro h; cases h) rfl ga_m_1 rfl dX12_readText_54 ?_
        refine td_let (fun D17 => ?_)
        refine ts_aload_n (i := 0) rfl rfl dX12_readText_57 ?_
        refine tq_callV (y2 := mX12_line) [] [] 1 (st' := fun _ => []) tw_X12_line tx_X12_line tw_c12 ga_m_1 tl_X12_261 rfl rfl rfl rfl (fun _ => rfl) dX12_readText_58 (S_X12_line l hE _ D17) (fun r18 D19 => ?_)
        refine ts_goto (tgt := 31) rfl dX12_readText_61 ?_
        exact ih v1 D19
      · refine ts_aload_n (i := 0) rfl rfl dX12_readText_64 ?_
        refine td_getI tl_X12_212 rfl ga_m_1 rfl dX12_readText_65 ?_
        refine td_if_ge (tgt := 86) rfl dX12_readText_68 ?_ ?_
        · exact S_X12_readText_86 hE d v1 D16
        · refine ts_aload_n (i := 0) rfl rfl dX12_readText_71 ?_
          refine td_getI tl_X12_209 rfl ga_m_1 rfl dX12_readText_72 ?_
          refine ts_aload_n (i := 0) rfl rfl dX12_readText_75 ?_
          refine td_getI tl_X12_206 rfl ga_m_1 rfl dX12_readText_76 ?_
          refine td_icmp_ge (tgt := 86) rfl dX12_readText_79 ?_ ?_
          · exact S_X12_readText_86 hE d v1 D16
          · refine ts_aload_n (i := 0) rfl rfl dX12_readText_82 ?_
            refine tq_callV (y2 := mX12_wrong) [] [] 1 (st' := fun _ => []) tw_X12_wrong tx_X12_wrong tw_c12 ga_m_1 tl_X12_221 rfl rfl rfl rfl (fun _ => rfl) dX12_readText_83 (S_X12_wrong l hE _ D16) (fun r20 D21 => ?_)
            exact S_X12_readText_86 hE d v1 D21
def F_X12_readText (a1 : Int) (D : td_D) : Option (Int × td_D) :=
  td_l (td_upd D 1 19 0) fun D22 =>
  td_l (td_upd D22 1 20 ((-1))) fun D23 =>
  td_l (td_upd D23 1 21 0) fun D24 =>
  td_l (td_upd D24 1 22 0) fun D25 =>
  td_l (td_upd D25 16 (Int.toNat 1) 0) fun D26 =>
  td_b (F_X12_line D26) fun _ D28 =>
  F_X12_readText_31 tf_N a1 D28
set_option maxHeartbeats 4000000 in
set_option maxRecDepth 20000 in
theorem S_X12_readText (l : Launch) {E : tv_E} (hE : tv_hE E) (d : Nat) (a1 : Int) (D : td_D) : td_msim l E (d + 103) mX12_readText g_m [tv_R 1, tv_I a1] D (F_X12_readText a1 D) := by
  refine td_meetL (ls := [tv_R 1, tv_I a1, tv_U]) rfl (Nat.le_of_ble_eq_true rfl) rfl ?_
  unfold F_X12_readText
  refine ts_aload_n (i := 0) rfl rfl dX12_readText_0 ?_
  refine ts_iconst rfl dX12_readText_1 ?_
  refine td_putI tf_X12_209 (by intro h; cases h) rfl ga_m_1 rfl dX12_readText_2 ?_
  refine td_let (fun D22 => ?_)
  refine ts_aload_n (i := 0) rfl rfl dX12_readText_5 ?_
  refine ts_iconst rfl dX12_readText_6 ?_
  refine td_putI tf_X12_212 (by intro h; cases h) rfl ga_m_1 rfl dX12_readText_7 ?_
  refine td_let (fun D23 => ?_)
  refine ts_aload_n (i := 0) rfl rfl dX12_readText_10 ?_
  refine ts_iconst rfl dX12_readText_11 ?_
  refine td_putI tf_X12_218 (by intro h; cases h) rfl ga_m_1 rfl dX12_readText_12 ?_
  refine td_let (fun D24 => ?_)
  refine ts_aload_n (i := 0) rfl rfl dX12_readText_15 ?_
  refine ts_iconst rfl dX12_readText_16 ?_
  refine td_putI tf_X12_215 (by intro h; cases h) rfl ga_m_1 rfl dX12_readText_17 ?_
  refine td_let (fun D25 => ?_)
  refine ts_aload_n (i := 0) rfl rfl dX12_readText_20 ?_
  refine td_getR (q := 16) tl_X12_53 rfl ga_m_1 rfl dX12_readText_21 ?_
  refine ts_iconst rfl dX12_readText_24 ?_
  refine ts_iconst rfl dX12_readText_25 ?_
  refine td_iastK ga_m_16 (gn_m_16 _) ⟨by decide, by decide⟩ dX12_readText_26 ?_
  refine td_let (fun D26 => ?_)
  refine ts_aload_n (i := 0) rfl rfl dX12_readText_27 ?_
  refine tq_callV (y2 := mX12_line) [] [] 1 (st' := fun _ => []) tw_X12_line tx_X12_line tw_c12 ga_m_1 tl_X12_261 rfl rfl rfl rfl (fun _ => rfl) dX12_readText_28 (S_X12_line l hE _ D26) (fun r27 D28 => ?_)
  exact S_X12_readText_31 hE d tf_N a1 D28
def F_X12_law (D : td_D) : Option (Int × td_D) :=
  td_b (F_X12_readText 0 D) fun r1 D2 =>
  if r1 < 0 then
    td_l (td_upd D2 1 30 1) fun D3 =>
    some (1, D3)
  else
    some (tv_w (((-100)) - r1), D2)
set_option maxHeartbeats 4000000 in
set_option maxRecDepth 20000 in
theorem S_X12_law (l : Launch) {E : tv_E} (hE : tv_hE E) (d : Nat) (D : td_D) : td_msim l E (d + 104) mX12_law g_m [tv_R 1] D (F_X12_law D) := by
  refine td_meetL (ls := [tv_R 1, tv_U]) rfl (Nat.le_of_ble_eq_true rfl) rfl ?_
  unfold F_X12_law
  refine ts_aload_n (i := 0) rfl rfl dX12_law_0 ?_
  refine ts_iconst rfl dX12_law_1 ?_
  refine tq_callV (y2 := mX12_readText) [tv_I 0] [] 1 (st' := fun r1 => [tv_I r1]) tw_X12_readText tx_X12_readText tw_c12 ga_m_1 tl_X12_270 rfl rfl rfl rfl (fun _ => rfl) dX12_law_2 (S_X12_readText l hE _ 0 D) (fun r1 D2 => ?_)
  refine tq_istore_n [tv_R 1, tv_I r1] rfl (Nat.le_of_ble_eq_true rfl) rfl rfl dX12_law_5 ?_
  refine ts_iload_n (i := 1) rfl rfl dX12_law_6 ?_
  refine td_if_lt (tgt := 15) rfl dX12_law_7 ?_ ?_
  · refine ts_aload_n (i := 0) rfl rfl dX12_law_15 ?_
    refine ts_iconst rfl dX12_law_16 ?_
    refine td_putZ tf_X12_273 (by intro h; cases h) rfl ga_m_1 rfl (Or.inr rfl) dX12_law_17 ?_
    refine td_let (fun D3 => ?_)
    refine ts_iconst rfl dX12_law_20 ?_
    exact td_iret rfl dX12_law_21
  · refine ts_bipush rfl dX12_law_10 ?_
    refine ts_iload_n (i := 1) rfl rfl dX12_law_12 ?_
    refine ts_isub dX12_law_13 ?_
    exact td_iret rfl dX12_law_14
