def F_X11_costOfHaving (a1 : Int) (D : td_D) : Option (Int × td_D) :=
  some (tv_w ((tv_w ((tv_max 0 (tv_w ((D 2 11) - (tv_div a1 10)))) * (D 2 12))) + (tv_w (12 * (tv_div a1 5)))), D)
set_option maxHeartbeats 4000000 in
set_option maxRecDepth 20000 in
theorem S_X11_costOfHaving (l : Launch) {E : tv_E} (hE : tv_hE E) (d : Nat) (a1 : Int) (D : td_D) : td_msim l E (d + 1) mX11_costOfHaving g_c [tv_R 1, tv_I a1] D (F_X11_costOfHaving a1 D) := by
  refine td_meetL (ls := [tv_R 1, tv_I a1]) rfl (Nat.le_of_ble_eq_true rfl) rfl ?_
  unfold F_X11_costOfHaving
  refine ts_iconst rfl dX11_costOfHaving_0 ?_
  refine ts_aload_n (i := 0) rfl rfl dX11_costOfHaving_1 ?_
  refine td_getR (q := 2) tl_X11_12 rfl ga_c_1 rfl dX11_costOfHaving_2 ?_
  refine td_getI tl_X11_314 rfl ga_c_2 rfl dX11_costOfHaving_5 ?_
  refine ts_iload_n (i := 1) rfl rfl dX11_costOfHaving_8 ?_
  refine ts_bipush rfl dX11_costOfHaving_9 ?_
  refine td_idivK (by decide) dX11_costOfHaving_11 ?_
  refine ts_isub dX11_costOfHaving_12 ?_
  refine ts_mmax rfl rfl tl_X11_219 dX11_costOfHaving_13 ?_
  refine ts_aload_n (i := 0) rfl rfl dX11_costOfHaving_16 ?_
  refine td_getR (q := 2) tl_X11_12 rfl ga_c_1 rfl dX11_costOfHaving_17 ?_
  refine td_getI tl_X11_317 rfl ga_c_2 rfl dX11_costOfHaving_20 ?_
  refine ts_imul dX11_costOfHaving_23 ?_
  refine ts_bipush rfl dX11_costOfHaving_24 ?_
  refine ts_iload_n (i := 1) rfl rfl dX11_costOfHaving_26 ?_
  refine ts_iconst rfl dX11_costOfHaving_27 ?_
  refine td_idivK (by decide) dX11_costOfHaving_28 ?_
  refine ts_imul dX11_costOfHaving_29 ?_
  refine ts_iadd dX11_costOfHaving_30 ?_
  exact td_iret rfl dX11_costOfHaving_31
def F_X11_leave_15 : Nat → Int → Int → Int → td_D → Option (Int × td_D)
  | 0, _, _, _, _ => none
  | n + 1, v1, v2, v3, D =>
    if 99 < v3 then
      if v1 = 0 then
        some (v2, D)
      else
        td_b (F_X11_costOfHaving v2 D) fun r1 D2 =>
        some (r1, D2)
    else
      td_b (F_X11_costOfHaving v3 D) fun r3 D4 =>
      td_b (F_X11_costOfHaving v2 D4) fun r5 D6 =>
      if r5 ≤ r3 then
        F_X11_leave_15 n v1 v2 (tv_w (v3 + 1)) D6
      else
        F_X11_leave_15 n v1 v3 (tv_w (v3 + 1)) D6
set_option maxHeartbeats 4000000 in
set_option maxRecDepth 20000 in
theorem S_X11_leave_15 {l : Launch} {E : tv_E} (hE : tv_hE E) (d : Nat) : ∀ (n : Nat) (v1 : Int) (v2 : Int) (v3 : Int) (D : td_D), td_sim l E (d + 2) mX11_leave g_c 15 [tv_R 1, tv_I v1, tv_I v2, tv_I v3] [] D (F_X11_leave_15 n v1 v2 v3 D) := by
  intro n
  induction n with
  | zero => intros; exact tv_none
  | succ n ih =>
    intro v1 v2 v3 D
    show td_sim _ _ _ _ _ _ _ _ _ (F_X11_leave_15 (n + 1) v1 v2 v3 D)
    unfold F_X11_leave_15
    refine ts_iload_n (i := 3) rfl rfl dX11_leave_15 ?_
    refine ts_bipush rfl dX11_leave_16 ?_
    refine td_icmp_gt (tgt := 42) rfl dX11_leave_18 ?_ ?_
    · refine ts_iload_n (i := 1) rfl rfl dX11_leave_42 ?_
      refine td_if_ne (tgt := 50) rfl dX11_leave_43 ?_ ?_
      · refine ts_iload_n (i := 2) rfl rfl dX11_leave_46 ?_
        refine ts_goto (tgt := 55) rfl dX11_leave_47 ?_
        exact td_iret rfl dX11_leave_55
      · refine ts_aload_n (i := 0) rfl rfl dX11_leave_50 ?_
        refine ts_iload_n (i := 2) rfl rfl dX11_leave_51 ?_
        refine tq_callV (y2 := mX11_costOfHaving) [tv_I v2] [] 1 (st' := fun r1 => [tv_I r1]) tw_X11_costOfHaving tx_X11_costOfHaving tw_c11 ga_c_1 tl_X11_311 rfl rfl rfl rfl (fun _ => rfl) dX11_leave_52 (S_X11_costOfHaving l hE _ v2 D) (fun r1 D2 => ?_)
        exact td_iret rfl dX11_leave_55
    · refine ts_aload_n (i := 0) rfl rfl dX11_leave_21 ?_
      refine ts_iload_n (i := 3) rfl rfl dX11_leave_22 ?_
      refine tq_callV (y2 := mX11_costOfHaving) [tv_I v3] [] 1 (st' := fun r3 => [tv_I r3]) tw_X11_costOfHaving tx_X11_costOfHaving tw_c11 ga_c_1 tl_X11_311 rfl rfl rfl rfl (fun _ => rfl) dX11_leave_23 (S_X11_costOfHaving l hE _ v3 D) (fun r3 D4 => ?_)
      refine ts_aload_n (i := 0) rfl rfl dX11_leave_26 ?_
      refine ts_iload_n (i := 2) rfl rfl dX11_leave_27 ?_
      refine tq_callV (y2 := mX11_costOfHaving) [tv_I v2] [tv_I r3] 1 (st' := fun r5 => [tv_I r5, tv_I r3]) tw_X11_costOfHaving tx_X11_costOfHaving tw_c11 ga_c_1 tl_X11_311 rfl rfl rfl rfl (fun _ => rfl) dX11_leave_28 (S_X11_costOfHaving l hE _ v2 D4) (fun r5 D6 => ?_)
      refine td_icmp_ge (tgt := 36) rfl dX11_leave_31 ?_ ?_
      · refine tq_iinc [tv_R 1, tv_I v1, tv_I v2, tv_I (tv_w (v3 + 1))] rfl rfl rfl dX11_leave_36 ?_
        refine ts_goto (tgt := 15) rfl dX11_leave_39 ?_
        exact ih v1 v2 (tv_w (v3 + 1)) D6
      · refine ts_iload_n (i := 3) rfl rfl dX11_leave_34 ?_
        refine tq_istore_n [tv_R 1, tv_I v1, tv_I v3, tv_I v3] rfl (Nat.le_of_ble_eq_true rfl) rfl rfl dX11_leave_35 ?_
        refine tq_iinc [tv_R 1, tv_I v1, tv_I v3, tv_I (tv_w (v3 + 1))] rfl rfl rfl dX11_leave_36 ?_
        refine ts_goto (tgt := 15) rfl dX11_leave_39 ?_
        exact ih v1 v3 (tv_w (v3 + 1)) D6
def F_X11_leave (a1 : Int) (D : td_D) : Option (Int × td_D) :=
  if a1 < 0 then
    some ((-1), D)
  else
    if a1 ≤ 1 then
      F_X11_leave_15 tf_N a1 0 1 D
    else
      some ((-1), D)
set_option maxHeartbeats 4000000 in
set_option maxRecDepth 20000 in
theorem S_X11_leave (l : Launch) {E : tv_E} (hE : tv_hE E) (d : Nat) (a1 : Int) (D : td_D) : td_msim l E (d + 2) mX11_leave g_c [tv_R 1, tv_I a1] D (F_X11_leave a1 D) := by
  refine td_meetL (ls := [tv_R 1, tv_I a1, tv_U, tv_U]) rfl (Nat.le_of_ble_eq_true rfl) rfl ?_
  unfold F_X11_leave
  refine ts_iload_n (i := 1) rfl rfl dX11_leave_0 ?_
  refine td_if_lt (tgt := 9) rfl dX11_leave_1 ?_ ?_
  · refine ts_iconst rfl dX11_leave_9 ?_
    exact td_iret rfl dX11_leave_10
  · refine ts_iload_n (i := 1) rfl rfl dX11_leave_4 ?_
    refine ts_iconst rfl dX11_leave_5 ?_
    refine td_icmp_le (tgt := 11) rfl dX11_leave_6 ?_ ?_
    · refine ts_iconst rfl dX11_leave_11 ?_
      refine tq_istore_n [tv_R 1, tv_I a1, tv_I 0, tv_U] rfl (Nat.le_of_ble_eq_true rfl) rfl rfl dX11_leave_12 ?_
      refine ts_iconst rfl dX11_leave_13 ?_
      refine tq_istore_n [tv_R 1, tv_I a1, tv_I 0, tv_I 1] rfl (Nat.le_of_ble_eq_true rfl) rfl rfl dX11_leave_14 ?_
      exact S_X11_leave_15 hE d tf_N a1 0 1 D
    · refine ts_iconst rfl dX11_leave_9 ?_
      exact td_iret rfl dX11_leave_10
def F_X11_judge_31 : Nat → Nat → Int → td_D → Option (Int × td_D)
  | 0, _, _, _ => none
  | n + 1, v2, v4, D =>
    if D v2 2 ≤ v4 then
      some ((-2), D)
    else
      td_b (F_X6_at v2 v4 D) fun r1 D2 =>
      td_b (F_X3_isPerson r1 D2) fun r3 D4 =>
      if r3 = 0 then
        some (tv_div v4 2, D4)
      else
        td_b (F_X6_at v2 (tv_w (v4 + 1)) D4) fun r5 D6 =>
        if 0 ≤ r1 ∧ r1 < ((6 : Nat) : Int) then
          if r5 = D6 3 (Int.toNat r1) then
            F_X11_judge_31 n v2 (tv_w (v4 + 2)) D6
          else
            some (tv_div v4 2, D6)
        else none
set_option maxHeartbeats 4000000 in
set_option maxRecDepth 20000 in
theorem S_X11_judge_31 {l : Launch} {E : tv_E} (hE : tv_hE E) (d : Nat) : ∀ (n : Nat) (v2 : Nat) (v4 : Int) (D : td_D), tv_isShelf v2 → td_sim l E (d + 2) mX11_judge g_c 31 [tv_R 1, tv_U, tv_R v2, tv_U, tv_I v4, tv_U] [] D (F_X11_judge_31 n v2 v4 D) := by
  intro n
  induction n with
  | zero => intros; exact tv_none
  | succ n ih =>
    intro v2 v4 D hv2
    show td_sim _ _ _ _ _ _ _ _ _ (F_X11_judge_31 (n + 1) v2 v4 D)
    unfold F_X11_judge_31
    refine ts_iload rfl dX11_judge_31 ?_
    refine ts_aload_n (i := 2) rfl rfl dX11_judge_33 ?_
    refine td_getI tl_X11_320 rfl hv2.1 hv2.2.2.2.2 dX11_judge_34 ?_
    refine td_icmp_ge (tgt := 92) rfl dX11_judge_37 ?_ ?_
    · refine ts_bipush rfl dX11_judge_92 ?_
      exact td_iret rfl dX11_judge_94
    · refine ts_aload_n (i := 2) rfl rfl dX11_judge_40 ?_
      refine ts_iload rfl dX11_judge_41 ?_
      refine tq_callV (y2 := mX6_at) [tv_I v4] [] v2 (st' := fun r1 => [tv_I r1]) tw_X6_at tx_X6_at tw_c6 hv2.1 tl_X11_141 rfl rfl rfl rfl (fun _ => rfl) dX11_judge_43 (S_X6_at l hE _ v2 v4 hv2 D) (fun r1 D2 => ?_)
      refine tq_istore [tv_R 1, tv_U, tv_R v2, tv_U, tv_I v4, tv_I r1] (Nat.le_of_ble_eq_true rfl) rfl rfl dX11_judge_46 ?_
      refine ts_aload_n (i := 0) rfl rfl dX11_judge_48 ?_
      refine td_getR (q := 2) tl_X11_12 rfl ga_c_1 rfl dX11_judge_49 ?_
      refine ts_iload rfl dX11_judge_52 ?_
      refine tq_callV (y2 := mX3_isPerson) [tv_I r1] [] 2 (st' := fun r3 => [tv_I r3]) tw_X3_isPerson tx_X3_isPerson tw_c3 ga_c_2 tl_X11_172 rfl rfl rfl rfl (fun _ => rfl) dX11_judge_54 (S_X3_isPerson l hE _ r1 D2) (fun r3 D4 => ?_)
      refine td_if_eq (tgt := 81) rfl dX11_judge_57 ?_ ?_
      · refine ts_iload rfl dX11_judge_81 ?_
        refine ts_iconst rfl dX11_judge_83 ?_
        refine td_idivK (by decide) dX11_judge_84 ?_
        exact td_iret rfl dX11_judge_85
      · refine ts_aload_n (i := 2) rfl rfl dX11_judge_60 ?_
        refine ts_iload rfl dX11_judge_61 ?_
        refine ts_iconst rfl dX11_judge_63 ?_
        refine ts_iadd dX11_judge_64 ?_
        refine tq_callV (y2 := mX6_at) [tv_I (tv_w (v4 + 1))] [] v2 (st' := fun r5 => [tv_I r5]) tw_X6_at tx_X6_at tw_c6 hv2.1 tl_X11_141 rfl rfl rfl rfl (fun _ => rfl) dX11_judge_65 (S_X6_at l hE _ v2 (tv_w (v4 + 1)) hv2 D4) (fun r5 D6 => ?_)
        refine ts_aload_n (i := 0) rfl rfl dX11_judge_68 ?_
        refine td_getR (q := 2) tl_X11_12 rfl ga_c_1 rfl dX11_judge_69 ?_
        refine td_getR (q := 3) tl_X11_225 rfl ga_c_2 rfl dX11_judge_72 ?_
        refine ts_iload rfl dX11_judge_75 ?_
        refine td_guard (fun h7 => ?_)
        refine td_ialdK ga_c_3 (gn_c_3 _) h7 dX11_judge_77 ?_
        refine td_icmp_eq (tgt := 86) rfl dX11_judge_78 ?_ ?_
        · refine tq_iinc [tv_R 1, tv_U, tv_R v2, tv_U, tv_I (tv_w (v4 + 2)), tv_I r1] rfl rfl rfl dX11_judge_86 ?_
          refine ts_goto (tgt := 31) rfl dX11_judge_89 ?_
          refine tv_weak (ls' := [tv_R 1, tv_U, tv_R v2, tv_U, tv_I (tv_w (v4 + 2)), tv_U]) ⟨Or.inr rfl, Or.inl rfl, Or.inr rfl, Or.inl rfl, Or.inr rfl, Or.inl rfl, trivial⟩ ?_
          exact ih v2 (tv_w (v4 + 2)) D6 hv2
        · refine ts_iload rfl dX11_judge_81 ?_
          refine ts_iconst rfl dX11_judge_83 ?_
          refine td_idivK (by decide) dX11_judge_84 ?_
          exact td_iret rfl dX11_judge_85
def F_X11_judge (a1 : Int) (D : td_D) : Option (Int × td_D) :=
  td_b (F_X11_isShelf a1 D) fun r8 D9 =>
  if r8 = 0 then
    some ((-1), D9)
  else
    if 0 ≤ a1 ∧ a1 < ((6 : Nat) : Int) then
      td_b (F_X11_refusal (td_r g_c 46 (Int.toNat a1)) 1 D9) fun r11 D12 =>
      if r11 = 0 then
        F_X11_judge_31 tf_N (td_r g_c 46 (Int.toNat a1)) 0 D12
      else
        some (r11, D12)
    else none
set_option maxHeartbeats 4000000 in
set_option maxRecDepth 20000 in
theorem S_X11_judge (l : Launch) {E : tv_E} (hE : tv_hE E) (d : Nat) (a1 : Int) (D : td_D) : td_msim l E (d + 2) mX11_judge g_c [tv_R 1, tv_I a1] D (F_X11_judge a1 D) := by
  refine td_meetL (ls := [tv_R 1, tv_I a1, tv_U, tv_U, tv_U, tv_U]) rfl (Nat.le_of_ble_eq_true rfl) rfl ?_
  unfold F_X11_judge
  refine ts_iload_n (i := 1) rfl rfl dX11_judge_0 ?_
  refine tq_callS (y2 := mX11_isShelf) [tv_I a1] [] (st' := fun r8 => [tv_I r8]) tw_X11_isShelf tx_X11_isShelf tl_X11_131 rfl rfl rfl rfl (fun _ => rfl) dX11_judge_1 (S_X11_isShelf l hE _ a1 D) (fun r8 D9 => ?_)
  refine td_if_ne (tgt := 9) rfl dX11_judge_4 ?_ ?_
  · refine ts_iconst rfl dX11_judge_7 ?_
    exact td_iret rfl dX11_judge_8
  · refine ts_aload_n (i := 0) rfl rfl dX11_judge_9 ?_
    refine td_getR (q := 46) tl_X11_94 rfl ga_c_1 rfl dX11_judge_10 ?_
    refine ts_iload_n (i := 1) rfl rfl dX11_judge_13 ?_
    refine td_guard (fun h10 => ?_)
    refine td_aaldK ga_c_46 (by decide) h10 dX11_judge_14 ?_
    refine tq_astore_n [tv_R 1, tv_I a1, tv_R (td_r g_c 46 (Int.toNat a1)), tv_U, tv_U, tv_U] rfl (Nat.le_of_ble_eq_true rfl) rfl (shelf_pos (is_shelf_of h10)) rfl dX11_judge_15 ?_
    refine ts_aload_n (i := 2) rfl rfl dX11_judge_16 ?_
    refine ts_iconst rfl dX11_judge_17 ?_
    refine tq_callS (y2 := mX11_refusal) [tv_R (td_r g_c 46 (Int.toNat a1)), tv_I 1] [] (st' := fun r11 => [tv_I r11]) tw_X11_refusal tx_X11_refusal tl_X11_240 rfl rfl rfl rfl (fun _ => rfl) dX11_judge_18 (S_X11_refusal l hE _ (td_r g_c 46 (Int.toNat a1)) 1 (is_shelf_of h10) D9) (fun r11 D12 => ?_)
    refine tq_istore_n [tv_R 1, tv_I a1, tv_R (td_r g_c 46 (Int.toNat a1)), tv_I r11, tv_U, tv_U] rfl (Nat.le_of_ble_eq_true rfl) rfl rfl dX11_judge_21 ?_
    refine ts_iload_n (i := 3) rfl rfl dX11_judge_22 ?_
    refine td_if_eq (tgt := 28) rfl dX11_judge_23 ?_ ?_
    · refine ts_iconst rfl dX11_judge_28 ?_
      refine tq_istore [tv_R 1, tv_I a1, tv_R (td_r g_c 46 (Int.toNat a1)), tv_I r11, tv_I 0, tv_U] (Nat.le_of_ble_eq_true rfl) rfl rfl dX11_judge_29 ?_
      refine tv_weak (ls' := [tv_R 1, tv_U, tv_R (td_r g_c 46 (Int.toNat a1)), tv_U, tv_I 0, tv_U]) ⟨Or.inr rfl, Or.inl rfl, Or.inr rfl, Or.inl rfl, Or.inr rfl, Or.inl rfl, trivial⟩ ?_
      exact S_X11_judge_31 hE d tf_N (td_r g_c 46 (Int.toNat a1)) 0 D12 (is_shelf_of h10)
    · refine ts_iload_n (i := 3) rfl rfl dX11_judge_26 ?_
      exact td_iret rfl dX11_judge_27
def F_X11_from_29 : Nat → Int → Int → Int → Int → td_D → Option (Int × td_D)
  | 0, _, _, _, _, _ => none
  | n + 1, v1, v2, v3, v4, D =>
    if D 2 1 ≤ v4 then
      some (v3, D)
    else
      if 0 ≤ v1 ∧ v1 < ((6 : Nat) : Int) then
        if D 3 (Int.toNat v1) < v2 then
          F_X11_from_29 n v1 v2 v3 (tv_w (v4 + 1)) D
        else
          td_b (F_X7_share 5 v4 v1 D) fun r2 D3 =>
          if 99 < tv_w (r2 + v2) then
            F_X11_from_29 n v1 v2 v3 (tv_w (v4 + 1)) D3
          else
            F_X11_from_29 n v1 v2 (tv_or v3 (tv_shl 1 v4)) (tv_w (v4 + 1)) D3
      else none
set_option maxHeartbeats 4000000 in
set_option maxRecDepth 20000 in
theorem S_X11_from_29 {l : Launch} {E : tv_E} (hE : tv_hE E) (d : Nat) : ∀ (n : Nat) (v1 : Int) (v2 : Int) (v3 : Int) (v4 : Int) (D : td_D), td_sim l E (d + 1) mX11_from g_c 29 [tv_R 1, tv_I v1, tv_I v2, tv_I v3, tv_I v4] [] D (F_X11_from_29 n v1 v2 v3 v4 D) := by
  intro n
  induction n with
  | zero => intros; exact tv_none
  | succ n ih =>
    intro v1 v2 v3 v4 D
    show td_sim _ _ _ _ _ _ _ _ _ (F_X11_from_29 (n + 1) v1 v2 v3 v4 D)
    unfold F_X11_from_29
    refine ts_iload rfl dX11_from_29 ?_
    refine ts_aload_n (i := 0) rfl rfl dX11_from_31 ?_
    refine td_getR (q := 2) tl_X11_12 rfl ga_c_1 rfl dX11_from_32 ?_
    refine td_getI tl_X11_114 rfl ga_c_2 rfl dX11_from_35 ?_
    refine td_icmp_ge (tgt := 87) rfl dX11_from_38 ?_ ?_
    · refine ts_iload_n (i := 3) rfl rfl dX11_from_87 ?_
      exact td_iret rfl dX11_from_88
    · refine ts_aload_n (i := 0) rfl rfl dX11_from_41 ?_
      refine td_getR (q := 2) tl_X11_12 rfl ga_c_1 rfl dX11_from_42 ?_
      refine td_getR (q := 3) tl_X11_225 rfl ga_c_2 rfl dX11_from_45 ?_
      refine ts_iload_n (i := 1) rfl rfl dX11_from_48 ?_
      refine td_guard (fun h1 => ?_)
      refine td_ialdK ga_c_3 (gn_c_3 _) h1 dX11_from_49 ?_
      refine ts_iload_n (i := 2) rfl rfl dX11_from_50 ?_
      refine td_icmp_lt (tgt := 81) rfl dX11_from_51 ?_ ?_
      · refine tq_iinc [tv_R 1, tv_I v1, tv_I v2, tv_I v3, tv_I (tv_w (v4 + 1))] rfl rfl rfl dX11_from_81 ?_
        refine ts_goto (tgt := 29) rfl dX11_from_84 ?_
        exact ih v1 v2 v3 (tv_w (v4 + 1)) D
      · refine ts_aload_n (i := 0) rfl rfl dX11_from_54 ?_
        refine td_getR (q := 2) tl_X11_12 rfl ga_c_1 rfl dX11_from_55 ?_
        refine td_getR (q := 5) tl_X11_175 rfl ga_c_2 rfl dX11_from_58 ?_
        refine ts_iload rfl dX11_from_61 ?_
        refine ts_iload_n (i := 1) rfl rfl dX11_from_63 ?_
        refine tq_callV (y2 := mX7_share) [tv_I v4, tv_I v1] [] 5 (st' := fun r2 => [tv_I r2]) tw_X7_share tx_X7_share tw_c7 ga_c_5 tl_X11_192 rfl rfl rfl rfl (fun _ => rfl) dX11_from_64 (S_X7_share l hE _ 5 v4 v1 is_stock_5 D) (fun r2 D3 => ?_)
        refine ts_iload_n (i := 2) rfl rfl dX11_from_67 ?_
        refine ts_iadd dX11_from_68 ?_
        refine ts_bipush rfl dX11_from_69 ?_
        refine td_icmp_gt (tgt := 81) rfl dX11_from_71 ?_ ?_
        · refine tq_iinc [tv_R 1, tv_I v1, tv_I v2, tv_I v3, tv_I (tv_w (v4 + 1))] rfl rfl rfl dX11_from_81 ?_
          refine ts_goto (tgt := 29) rfl dX11_from_84 ?_
          exact ih v1 v2 v3 (tv_w (v4 + 1)) D3
        · refine ts_iload_n (i := 3) rfl rfl dX11_from_74 ?_
          refine ts_iconst rfl dX11_from_75 ?_
          refine ts_iload rfl dX11_from_76 ?_
          refine ts_ishl dX11_from_78 ?_
          refine ts_ior dX11_from_79 ?_
          refine tq_istore_n [tv_R 1, tv_I v1, tv_I v2, tv_I (tv_or v3 (tv_shl 1 v4)), tv_I v4] rfl (Nat.le_of_ble_eq_true rfl) rfl rfl dX11_from_80 ?_
          refine tq_iinc [tv_R 1, tv_I v1, tv_I v2, tv_I (tv_or v3 (tv_shl 1 v4)), tv_I (tv_w (v4 + 1))] rfl rfl rfl dX11_from_81 ?_
          refine ts_goto (tgt := 29) rfl dX11_from_84 ?_
          exact ih v1 v2 (tv_or v3 (tv_shl 1 v4)) (tv_w (v4 + 1)) D3
def F_X11_from (a1 : Int) (a2 : Int) (D : td_D) : Option (Int × td_D) :=
  td_b (F_X3_isPerson a1 D) fun r4 D5 =>
  if r4 = 0 then
    some ((-1), D5)
  else
    if a2 < 1 then
      some ((-1), D5)
    else
      if a2 ≤ 99 then
        F_X11_from_29 tf_N a1 a2 0 0 D5
      else
        some ((-1), D5)
set_option maxHeartbeats 4000000 in
set_option maxRecDepth 20000 in
theorem S_X11_from (l : Launch) {E : tv_E} (hE : tv_hE E) (d : Nat) (a1 : Int) (a2 : Int) (D : td_D) : td_msim l E (d + 1) mX11_from g_c [tv_R 1, tv_I a1, tv_I a2] D (F_X11_from a1 a2 D) := by
  refine td_meetL (ls := [tv_R 1, tv_I a1, tv_I a2, tv_U, tv_U]) rfl (Nat.le_of_ble_eq_true rfl) rfl ?_
  unfold F_X11_from
  refine ts_aload_n (i := 0) rfl rfl dX11_from_0 ?_
  refine td_getR (q := 2) tl_X11_12 rfl ga_c_1 rfl dX11_from_1 ?_
  refine ts_iload_n (i := 1) rfl rfl dX11_from_4 ?_
  refine tq_callV (y2 := mX3_isPerson) [tv_I a1] [] 2 (st' := fun r4 => [tv_I r4]) tw_X3_isPerson tx_X3_isPerson tw_c3 ga_c_2 tl_X11_172 rfl rfl rfl rfl (fun _ => rfl) dX11_from_5 (S_X3_isPerson l hE _ a1 D) (fun r4 D5 => ?_)
  refine td_if_eq (tgt := 22) rfl dX11_from_8 ?_ ?_
  · refine ts_iconst rfl dX11_from_22 ?_
    exact td_iret rfl dX11_from_23
  · refine ts_iload_n (i := 2) rfl rfl dX11_from_11 ?_
    refine ts_iconst rfl dX11_from_12 ?_
    refine td_icmp_lt (tgt := 22) rfl dX11_from_13 ?_ ?_
    · refine ts_iconst rfl dX11_from_22 ?_
      exact td_iret rfl dX11_from_23
    · refine ts_iload_n (i := 2) rfl rfl dX11_from_16 ?_
      refine ts_bipush rfl dX11_from_17 ?_
      refine td_icmp_le (tgt := 24) rfl dX11_from_19 ?_ ?_
      · refine ts_iconst rfl dX11_from_24 ?_
        refine tq_istore_n [tv_R 1, tv_I a1, tv_I a2, tv_I 0, tv_U] rfl (Nat.le_of_ble_eq_true rfl) rfl rfl dX11_from_25 ?_
        refine ts_iconst rfl dX11_from_26 ?_
        refine tq_istore [tv_R 1, tv_I a1, tv_I a2, tv_I 0, tv_I 0] (Nat.le_of_ble_eq_true rfl) rfl rfl dX11_from_27 ?_
        exact S_X11_from_29 hE d tf_N a1 a2 0 0 D5
      · refine ts_iconst rfl dX11_from_22 ?_
        exact td_iret rfl dX11_from_23
def F_X11_swarm (a1 : Int) (D : td_D) : Option (Int × td_D) :=
  if a1 < 0 then
    some ((-1), D)
  else
    if a1 ≤ 1 then
      td_b (F_X7_allInAll 5 D) fun r1 D2 =>
      if a1 = 0 then
        some (r1, D2)
      else
        td_b (F_X11_farOrNot r1 D2) fun r3 D4 =>
        some (r3, D4)
    else
      some ((-1), D)
set_option maxHeartbeats 4000000 in
set_option maxRecDepth 20000 in
theorem S_X11_swarm (l : Launch) {E : tv_E} (hE : tv_hE E) (d : Nat) (a1 : Int) (D : td_D) : td_msim l E (d + 3) mX11_swarm g_c [tv_R 1, tv_I a1] D (F_X11_swarm a1 D) := by
  refine td_meetL (ls := [tv_R 1, tv_I a1, tv_U]) rfl (Nat.le_of_ble_eq_true rfl) rfl ?_
  unfold F_X11_swarm
  refine ts_iload_n (i := 1) rfl rfl dX11_swarm_0 ?_
  refine td_if_lt (tgt := 9) rfl dX11_swarm_1 ?_ ?_
  · refine ts_iconst rfl dX11_swarm_9 ?_
    exact td_iret rfl dX11_swarm_10
  · refine ts_iload_n (i := 1) rfl rfl dX11_swarm_4 ?_
    refine ts_iconst rfl dX11_swarm_5 ?_
    refine td_icmp_le (tgt := 11) rfl dX11_swarm_6 ?_ ?_
    · refine ts_aload_n (i := 0) rfl rfl dX11_swarm_11 ?_
      refine td_getR (q := 2) tl_X11_12 rfl ga_c_1 rfl dX11_swarm_12 ?_
      refine td_getR (q := 5) tl_X11_175 rfl ga_c_2 rfl dX11_swarm_15 ?_
      refine tq_callV (y2 := mX7_allInAll) [] [] 5 (st' := fun r1 => [tv_I r1]) tw_X7_allInAll tx_X7_allInAll tw_c7 ga_c_5 tl_X11_321 rfl rfl rfl rfl (fun _ => rfl) dX11_swarm_18 (S_X7_allInAll l hE _ 5 is_stock_5 D) (fun r1 D2 => ?_)
      refine tq_istore_n [tv_R 1, tv_I a1, tv_I r1] rfl (Nat.le_of_ble_eq_true rfl) rfl rfl dX11_swarm_21 ?_
      refine ts_iload_n (i := 1) rfl rfl dX11_swarm_22 ?_
      refine td_if_ne (tgt := 30) rfl dX11_swarm_23 ?_ ?_
      · refine ts_iload_n (i := 2) rfl rfl dX11_swarm_26 ?_
        refine ts_goto (tgt := 35) rfl dX11_swarm_27 ?_
        exact td_iret rfl dX11_swarm_35
      · refine ts_aload_n (i := 0) rfl rfl dX11_swarm_30 ?_
        refine ts_iload_n (i := 2) rfl rfl dX11_swarm_31 ?_
        refine tq_callV (y2 := mX11_farOrNot) [tv_I r1] [] 1 (st' := fun r3 => [tv_I r3]) tw_X11_farOrNot tx_X11_farOrNot tw_c11 ga_c_1 tl_X11_189 rfl rfl rfl rfl (fun _ => rfl) dX11_swarm_32 (S_X11_farOrNot l hE _ r1 D2) (fun r3 D4 => ?_)
        exact td_iret rfl dX11_swarm_35
    · refine ts_iconst rfl dX11_swarm_9 ?_
      exact td_iret rfl dX11_swarm_10
def F_X11_stingsOn_5 : Nat → Int → Int → Int → Int → td_D → Option (Int × td_D)
  | 0, _, _, _, _, _ => none
  | n + 1, v1, v2, v3, v4, D =>
    if D 2 1 ≤ v4 then
      some (v3, D)
    else
      if 0 ≤ v4 ∧ v4 < ((5 : Nat) : Int) then
        td_b (F_X11_apart v2 (D 4 (Int.toNat v4)) D) fun r2 D3 =>
        if 0 ≤ tv_w ((tv_w (v1 * 5)) + v4) ∧ tv_w ((tv_w (v1 * 5)) + v4) < ((150 : Nat) : Int) then
          if D3 59 (Int.toNat (tv_w ((tv_w (v1 * 5)) + v4))) < r2 then
            F_X11_stingsOn_5 n v1 v2 (tv_w (v3 + 0)) (tv_w (v4 + 1)) D3
          else
            F_X11_stingsOn_5 n v1 v2 (tv_w (v3 + 1)) (tv_w (v4 + 1)) D3
        else none
      else none
set_option maxHeartbeats 4000000 in
set_option maxRecDepth 20000 in
theorem S_X11_stingsOn_5 {l : Launch} {E : tv_E} (hE : tv_hE E) (d : Nat) : ∀ (n : Nat) (v1 : Int) (v2 : Int) (v3 : Int) (v4 : Int) (D : td_D), td_sim l E (d + 2) mX11_stingsOn g_c 5 [tv_R 1, tv_I v1, tv_I v2, tv_I v3, tv_I v4] [] D (F_X11_stingsOn_5 n v1 v2 v3 v4 D) := by
  intro n
  induction n with
  | zero => intros; exact tv_none
  | succ n ih =>
    intro v1 v2 v3 v4 D
    show td_sim _ _ _ _ _ _ _ _ _ (F_X11_stingsOn_5 (n + 1) v1 v2 v3 v4 D)
    unfold F_X11_stingsOn_5
    refine ts_iload rfl dX11_stingsOn_5 ?_
    refine ts_aload_n (i := 0) rfl rfl dX11_stingsOn_7 ?_
    refine td_getR (q := 2) tl_X11_12 rfl ga_c_1 rfl dX11_stingsOn_8 ?_
    refine td_getI tl_X11_114 rfl ga_c_2 rfl dX11_stingsOn_11 ?_
    refine td_icmp_ge (tgt := 59) rfl dX11_stingsOn_14 ?_ ?_
    · refine ts_iload_n (i := 3) rfl rfl dX11_stingsOn_59 ?_
      exact td_iret rfl dX11_stingsOn_60
    · refine ts_iload_n (i := 3) rfl rfl dX11_stingsOn_17 ?_
      refine ts_iload_n (i := 2) rfl rfl dX11_stingsOn_18 ?_
      refine ts_aload_n (i := 0) rfl rfl dX11_stingsOn_19 ?_
      refine td_getR (q := 2) tl_X11_12 rfl ga_c_1 rfl dX11_stingsOn_20 ?_
      refine td_getR (q := 4) tl_X11_290 rfl ga_c_2 rfl dX11_stingsOn_23 ?_
      refine ts_iload rfl dX11_stingsOn_26 ?_
      refine td_guard (fun h1 => ?_)
      refine td_ialdK ga_c_4 (gn_c_4 _) h1 dX11_stingsOn_28 ?_
      refine tq_callS (y2 := mX11_apart) [tv_I v2, tv_I (D 4 (Int.toNat v4))] [tv_I v3] (st' := fun r2 => [tv_I r2, tv_I v3]) tw_X11_apart tx_X11_apart tl_X11_308 rfl rfl rfl rfl (fun _ => rfl) dX11_stingsOn_29 (S_X11_apart l hE _ v2 (D 4 (Int.toNat v4)) D) (fun r2 D3 => ?_)
      refine ts_aload_n (i := 0) rfl rfl dX11_stingsOn_32 ?_
      refine td_getR (q := 59) tl_X11_44 rfl ga_c_1 rfl dX11_stingsOn_33 ?_
      refine ts_iload_n (i := 1) rfl rfl dX11_stingsOn_36 ?_
      refine ts_iconst rfl dX11_stingsOn_37 ?_
      refine ts_imul dX11_stingsOn_38 ?_
      refine ts_iload rfl dX11_stingsOn_39 ?_
      refine ts_iadd dX11_stingsOn_41 ?_
      refine td_guard (fun h4 => ?_)
      refine td_ialdK ga_c_59 (gn_c_59 _) h4 dX11_stingsOn_42 ?_
      refine td_icmp_gt (tgt := 50) rfl dX11_stingsOn_43 ?_ ?_
      · refine ts_iconst rfl dX11_stingsOn_50 ?_
        refine ts_iadd dX11_stingsOn_51 ?_
        refine tq_istore_n [tv_R 1, tv_I v1, tv_I v2, tv_I (tv_w (v3 + 0)), tv_I v4] rfl (Nat.le_of_ble_eq_true rfl) rfl rfl dX11_stingsOn_52 ?_
        refine tq_iinc [tv_R 1, tv_I v1, tv_I v2, tv_I (tv_w (v3 + 0)), tv_I (tv_w (v4 + 1))] rfl rfl rfl dX11_stingsOn_53 ?_
        refine ts_goto (tgt := 5) rfl dX11_stingsOn_56 ?_
        exact ih v1 v2 (tv_w (v3 + 0)) (tv_w (v4 + 1)) D3
      · refine ts_iconst rfl dX11_stingsOn_46 ?_
        refine ts_goto (tgt := 51) rfl dX11_stingsOn_47 ?_
        refine ts_iadd dX11_stingsOn_51 ?_
        refine tq_istore_n [tv_R 1, tv_I v1, tv_I v2, tv_I (tv_w (v3 + 1)), tv_I v4] rfl (Nat.le_of_ble_eq_true rfl) rfl rfl dX11_stingsOn_52 ?_
        refine tq_iinc [tv_R 1, tv_I v1, tv_I v2, tv_I (tv_w (v3 + 1)), tv_I (tv_w (v4 + 1))] rfl rfl rfl dX11_stingsOn_53 ?_
        refine ts_goto (tgt := 5) rfl dX11_stingsOn_56 ?_
        exact ih v1 v2 (tv_w (v3 + 1)) (tv_w (v4 + 1)) D3
def F_X11_stingsOn (a1 : Int) (a2 : Int) (D : td_D) : Option (Int × td_D) :=
  F_X11_stingsOn_5 tf_N a1 a2 0 0 D
set_option maxHeartbeats 4000000 in
set_option maxRecDepth 20000 in
theorem S_X11_stingsOn (l : Launch) {E : tv_E} (hE : tv_hE E) (d : Nat) (a1 : Int) (a2 : Int) (D : td_D) : td_msim l E (d + 2) mX11_stingsOn g_c [tv_R 1, tv_I a1, tv_I a2] D (F_X11_stingsOn a1 a2 D) := by
  refine td_meetL (ls := [tv_R 1, tv_I a1, tv_I a2, tv_U, tv_U]) rfl (Nat.le_of_ble_eq_true rfl) rfl ?_
  unfold F_X11_stingsOn
  refine ts_iconst rfl dX11_stingsOn_0 ?_
  refine tq_istore_n [tv_R 1, tv_I a1, tv_I a2, tv_I 0, tv_U] rfl (Nat.le_of_ble_eq_true rfl) rfl rfl dX11_stingsOn_1 ?_
  refine ts_iconst rfl dX11_stingsOn_2 ?_
  refine tq_istore [tv_R 1, tv_I a1, tv_I a2, tv_I 0, tv_I 0] (Nat.le_of_ble_eq_true rfl) rfl rfl dX11_stingsOn_3 ?_
  exact S_X11_stingsOn_5 hE d tf_N a1 a2 0 0 D
def F_X11_foreseeMonth_23 (k16 : Int → Int → td_D → Option (Int × td_D)) : Nat → Int → Int → Int → td_D → Option (Int × td_D)
  | 0, _, _, _, _ => none
  | n + 1, v1, v2, v3, D =>
    if D 2 1 ≤ v3 then
      k16 v1 (tv_w (v2 + 1)) D
    else
      td_b (F_X7_allIn 21 v3 D) fun r1 D2 =>
      td_b (F_X3_farOf r1 D2) fun r3 D4 =>
      if 0 ≤ tv_w ((tv_w (v2 * 5)) + v3) ∧ tv_w ((tv_w (v2 * 5)) + v3) < ((150 : Nat) : Int) then
        td_l (td_upd D4 59 (Int.toNat (tv_w ((tv_w (v2 * 5)) + v3))) r3) fun D6 =>
        td_b (F_X11_passDay 21 v3 v2 D6) fun r7 D8 =>
        F_X11_foreseeMonth_23 k16 n v1 v2 (tv_w (v3 + 1)) D8
      else none
set_option maxHeartbeats 4000000 in
set_option maxRecDepth 20000 in
theorem S_X11_foreseeMonth_23 {l : Launch} {E : tv_E} (hE : tv_hE E) (d : Nat) (k16 : Int → Int → td_D → Option (Int × td_D)) (hk16 : ∀ (v1 : Int) (v2 : Int) (D : td_D), td_sim l E (d + 5) mX11_foreseeMonth g_c 16 [tv_R 1, tv_I v1, tv_I v2, tv_U] [] D (k16 v1 v2 D)) : ∀ (n : Nat) (v1 : Int) (v2 : Int) (v3 : Int) (D : td_D), td_sim l E (d + 5) mX11_foreseeMonth g_c 23 [tv_R 1, tv_I v1, tv_I v2, tv_I v3] [] D (F_X11_foreseeMonth_23 k16 n v1 v2 v3 D) := by
  intro n
  induction n with
  | zero => intros; exact tv_none
  | succ n ih =>
    intro v1 v2 v3 D
    show td_sim _ _ _ _ _ _ _ _ _ (F_X11_foreseeMonth_23 k16 (n + 1) v1 v2 v3 D)
    unfold F_X11_foreseeMonth_23
    refine ts_iload_n (i := 3) rfl rfl dX11_foreseeMonth_23 ?_
    refine ts_aload_n (i := 0) rfl rfl dX11_foreseeMonth_24 ?_
    refine td_getR (q := 2) tl_X11_12 rfl ga_c_1 rfl dX11_foreseeMonth_25 ?_
    refine td_getI tl_X11_114 rfl ga_c_2 rfl dX11_foreseeMonth_28 ?_
    refine td_icmp_ge (tgt := 76) rfl dX11_foreseeMonth_31 ?_ ?_
    · refine tq_iinc [tv_R 1, tv_I v1, tv_I (tv_w (v2 + 1)), tv_I v3] rfl rfl rfl dX11_foreseeMonth_76 ?_
      refine ts_goto (tgt := 16) rfl dX11_foreseeMonth_79 ?_
      refine tv_weak (ls' := [tv_R 1, tv_I v1, tv_I (tv_w (v2 + 1)), tv_U]) ⟨Or.inr rfl, Or.inr rfl, Or.inr rfl, Or.inl rfl, trivial⟩ ?_
      exact hk16 v1 (tv_w (v2 + 1)) D
    · refine ts_aload_n (i := 0) rfl rfl dX11_foreseeMonth_34 ?_
      refine td_getR (q := 59) tl_X11_44 rfl ga_c_1 rfl dX11_foreseeMonth_35 ?_
      refine ts_iload_n (i := 2) rfl rfl dX11_foreseeMonth_38 ?_
      refine ts_iconst rfl dX11_foreseeMonth_39 ?_
      refine ts_imul dX11_foreseeMonth_40 ?_
      refine ts_iload_n (i := 3) rfl rfl dX11_foreseeMonth_41 ?_
      refine ts_iadd dX11_foreseeMonth_42 ?_
      refine ts_aload_n (i := 0) rfl rfl dX11_foreseeMonth_43 ?_
      refine td_getR (q := 2) tl_X11_12 rfl ga_c_1 rfl dX11_foreseeMonth_44 ?_
      refine ts_aload_n (i := 0) rfl rfl dX11_foreseeMonth_47 ?_
      refine td_getR (q := 21) tl_X11_40 rfl ga_c_1 rfl dX11_foreseeMonth_48 ?_
      refine ts_iload_n (i := 3) rfl rfl dX11_foreseeMonth_51 ?_
      refine tq_callV (y2 := mX7_allIn) [tv_I v3] [tv_R 2, tv_I (tv_w ((tv_w (v2 * 5)) + v3)), tv_R 59] 21 (st' := fun r1 => [tv_I r1, tv_R 2, tv_I (tv_w ((tv_w (v2 * 5)) + v3)), tv_R 59]) tw_X7_allIn tx_X7_allIn tw_c7 ga_c_21 tl_X11_186 rfl rfl rfl rfl (fun _ => rfl) dX11_foreseeMonth_52 (S_X7_allIn l hE _ 21 v3 is_stock_21 D) (fun r1 D2 => ?_)
      refine tq_callV (y2 := mX3_farOf) [tv_I r1] [tv_I (tv_w ((tv_w (v2 * 5)) + v3)), tv_R 59] 2 (st' := fun r3 => [tv_I r3, tv_I (tv_w ((tv_w (v2 * 5)) + v3)), tv_R 59]) tw_X3_farOf tx_X3_farOf tw_c3 ga_c_2 tl_X11_222 rfl rfl rfl rfl (fun _ => rfl) dX11_foreseeMonth_55 (S_X3_farOf l hE _ r1 D2) (fun r3 D4 => ?_)
      refine td_guard (fun h5 => ?_)
      refine td_iastK ga_c_59 (gn_c_59 _) h5 dX11_foreseeMonth_58 ?_
      refine td_let (fun D6 => ?_)
      refine ts_aload_n (i := 0) rfl rfl dX11_foreseeMonth_59 ?_
      refine ts_aload_n (i := 0) rfl rfl dX11_foreseeMonth_60 ?_
      refine td_getR (q := 21) tl_X11_40 rfl ga_c_1 rfl dX11_foreseeMonth_61 ?_
      refine ts_iload_n (i := 3) rfl rfl dX11_foreseeMonth_64 ?_
      refine ts_iload_n (i := 2) rfl rfl dX11_foreseeMonth_65 ?_
      refine tq_callV (y2 := mX11_passDay) [tv_R 21, tv_I v3, tv_I v2] [] 1 (st' := fun r7 => [tv_I r7]) tw_X11_passDay tx_X11_passDay tw_c11 ga_c_1 tl_X11_182 rfl rfl rfl rfl (fun _ => rfl) dX11_foreseeMonth_66 (S_X11_passDay l hE _ 21 v3 v2 is_stock_21 D6) (fun r7 D8 => ?_)
      refine ts_popI dX11_foreseeMonth_69 ?_
      refine tq_iinc [tv_R 1, tv_I v1, tv_I v2, tv_I (tv_w (v3 + 1))] rfl rfl rfl dX11_foreseeMonth_70 ?_
      refine ts_goto (tgt := 23) rfl dX11_foreseeMonth_73 ?_
      exact ih v1 v2 (tv_w (v3 + 1)) D8
def F_X11_foreseeMonth_16 : Nat → Int → Int → td_D → Option (Int × td_D)
  | 0, _, _, _ => none
  | n + 1, v1, v2, D =>
    if v1 ≤ v2 then
      some (0, D)
    else
      F_X11_foreseeMonth_23 (fun v1 v2 D => F_X11_foreseeMonth_16 n v1 v2 D) tf_N v1 v2 0 D
set_option maxHeartbeats 4000000 in
set_option maxRecDepth 20000 in
theorem S_X11_foreseeMonth_16 {l : Launch} {E : tv_E} (hE : tv_hE E) (d : Nat) : ∀ (n : Nat) (v1 : Int) (v2 : Int) (D : td_D), td_sim l E (d + 5) mX11_foreseeMonth g_c 16 [tv_R 1, tv_I v1, tv_I v2, tv_U] [] D (F_X11_foreseeMonth_16 n v1 v2 D) := by
  intro n
  induction n with
  | zero => intros; exact tv_none
  | succ n ih =>
    intro v1 v2 D
    show td_sim _ _ _ _ _ _ _ _ _ (F_X11_foreseeMonth_16 (n + 1) v1 v2 D)
    unfold F_X11_foreseeMonth_16
    refine ts_iload_n (i := 2) rfl rfl dX11_foreseeMonth_16 ?_
    refine ts_iload_n (i := 1) rfl rfl dX11_foreseeMonth_17 ?_
    refine td_icmp_ge (tgt := 82) rfl dX11_foreseeMonth_18 ?_ ?_
    · exact td_vret rfl dX11_foreseeMonth_82
    · refine ts_iconst rfl dX11_foreseeMonth_21 ?_
      refine tq_istore_n [tv_R 1, tv_I v1, tv_I v2, tv_I 0] rfl (Nat.le_of_ble_eq_true rfl) rfl rfl dX11_foreseeMonth_22 ?_
      exact S_X11_foreseeMonth_23 hE d (fun v1 v2 D => F_X11_foreseeMonth_16 n v1 v2 D) (fun v1 v2 D => ih v1 v2 D) tf_N v1 v2 0 D
def F_X11_foreseeMonth (a1 : Int) (D : td_D) : Option (Int × td_D) :=
  td_b (F_X7_copyFrom 21 5 D) fun _ D10 =>
  F_X11_foreseeMonth_16 tf_N a1 0 D10
set_option maxHeartbeats 4000000 in
set_option maxRecDepth 20000 in
theorem S_X11_foreseeMonth (l : Launch) {E : tv_E} (hE : tv_hE E) (d : Nat) (a1 : Int) (D : td_D) : td_msim l E (d + 5) mX11_foreseeMonth g_c [tv_R 1, tv_I a1] D (F_X11_foreseeMonth a1 D) := by
  refine td_meetL (ls := [tv_R 1, tv_I a1, tv_U, tv_U]) rfl (Nat.le_of_ble_eq_true rfl) rfl ?_
  unfold F_X11_foreseeMonth
  refine ts_aload_n (i := 0) rfl rfl dX11_foreseeMonth_0 ?_
  refine td_getR (q := 21) tl_X11_40 rfl ga_c_1 rfl dX11_foreseeMonth_1 ?_
  refine ts_aload_n (i := 0) rfl rfl dX11_foreseeMonth_4 ?_
  refine td_getR (q := 2) tl_X11_12 rfl ga_c_1 rfl dX11_foreseeMonth_5 ?_
  refine td_getR (q := 5) tl_X11_175 rfl ga_c_2 rfl dX11_foreseeMonth_8 ?_
  refine tq_callV (y2 := mX7_copyFrom) [tv_R 5] [] 21 (st' := fun _ => []) tw_X7_copyFrom tx_X7_copyFrom tw_c7 ga_c_21 tl_X11_178 rfl rfl rfl rfl (fun _ => rfl) dX11_foreseeMonth_11 (S_X7_copyFrom l hE _ 21 5 is_stock_21 is_stock_5 D) (fun r9 D10 => ?_)
  refine ts_iconst rfl dX11_foreseeMonth_14 ?_
  refine tq_istore_n [tv_R 1, tv_I a1, tv_I 0, tv_U] rfl (Nat.le_of_ble_eq_true rfl) rfl rfl dX11_foreseeMonth_15 ?_
  exact S_X11_foreseeMonth_16 hE d tf_N a1 0 D10
def F_X11_drawn_83 (k73 : Int → Int → Int → Int → Int → Int → Int → td_D → Option (Int × td_D)) : Nat → Int → Int → Int → Int → Int → Int → Int → Int → td_D → Option (Int × td_D)
  | 0, _, _, _, _, _, _, _, _, _ => none
  | n + 1, v3, v4, v5, v6, v7, v8, v9, v10, D =>
    if v5 ≤ v10 then
      k73 v3 v4 v5 v6 v7 v8 (tv_w (v9 + 1)) D
    else
      td_b (F_X11_stingsOn v10 (tv_w ((tv_rem (tv_ushr (tv_w ((tv_w (v6 * 1103515245)) + 12345)) 6) 10) + (tv_w (10 * (tv_rem (tv_ushr (tv_w ((tv_w (v6 * 1103515245)) + 12345)) 12) 10))))) D) fun r1 D2 =>
      if r1 ≤ 0 then
        F_X11_drawn_83 k73 n v3 v4 v5 (tv_w ((tv_w (v6 * 1103515245)) + 12345)) (tv_w (v7 + r1)) (tv_w (v8 + 0)) v9 (tv_w (v10 + 1)) D2
      else
        F_X11_drawn_83 k73 n v3 v4 v5 (tv_w ((tv_w (v6 * 1103515245)) + 12345)) (tv_w (v7 + r1)) (tv_w (v8 + 1)) v9 (tv_w (v10 + 1)) D2
set_option maxHeartbeats 4000000 in
set_option maxRecDepth 20000 in
theorem S_X11_drawn_83 {l : Launch} {E : tv_E} (hE : tv_hE E) (d : Nat) (k73 : Int → Int → Int → Int → Int → Int → Int → td_D → Option (Int × td_D)) (hk73 : ∀ (v3 : Int) (v4 : Int) (v5 : Int) (v6 : Int) (v7 : Int) (v8 : Int) (v9 : Int) (D : td_D), td_sim l E (d + 6) mX11_drawn g_c 73 [tv_R 1, tv_U, tv_U, tv_I v3, tv_I v4, tv_I v5, tv_I v6, tv_I v7, tv_I v8, tv_I v9, tv_U, tv_U] [] D (k73 v3 v4 v5 v6 v7 v8 v9 D)) : ∀ (n : Nat) (v3 : Int) (v4 : Int) (v5 : Int) (v6 : Int) (v7 : Int) (v8 : Int) (v9 : Int) (v10 : Int) (D : td_D), td_sim l E (d + 6) mX11_drawn g_c 83 [tv_R 1, tv_U, tv_U, tv_I v3, tv_I v4, tv_I v5, tv_I v6, tv_I v7, tv_I v8, tv_I v9, tv_I v10, tv_U] [] D (F_X11_drawn_83 k73 n v3 v4 v5 v6 v7 v8 v9 v10 D) := by
  intro n
  induction n with
  | zero => intros; exact tv_none
  | succ n ih =>
    intro v3 v4 v5 v6 v7 v8 v9 v10 D
    show td_sim _ _ _ _ _ _ _ _ _ (F_X11_drawn_83 k73 (n + 1) v3 v4 v5 v6 v7 v8 v9 v10 D)
    unfold F_X11_drawn_83
    refine ts_iload rfl dX11_drawn_83 ?_
    refine ts_iload rfl dX11_drawn_85 ?_
    refine td_icmp_ge (tgt := 158) rfl dX11_drawn_87 ?_ ?_
    · refine tq_iinc [tv_R 1, tv_U, tv_U, tv_I v3, tv_I v4, tv_I v5, tv_I v6, tv_I v7, tv_I v8, tv_I (tv_w (v9 + 1)), tv_I v10, tv_U] rfl rfl rfl dX11_drawn_158 ?_
      refine ts_goto (tgt := 73) rfl dX11_drawn_161 ?_
      refine tv_weak (ls' := [tv_R 1, tv_U, tv_U, tv_I v3, tv_I v4, tv_I v5, tv_I v6, tv_I v7, tv_I v8, tv_I (tv_w (v9 + 1)), tv_U, tv_U]) ⟨Or.inr rfl, Or.inl rfl, Or.inl rfl, Or.inr rfl, Or.inr rfl, Or.inr rfl, Or.inr rfl, Or.inr rfl, Or.inr rfl, Or.inr rfl, Or.inl rfl, Or.inl rfl, trivial⟩ ?_
      exact hk73 v3 v4 v5 v6 v7 v8 (tv_w (v9 + 1)) D
    · refine ts_iload rfl dX11_drawn_90 ?_
      refine ts_ldcw rfl tl_X11_329 dX11_drawn_92 ?_
      refine ts_imul dX11_drawn_95 ?_
      refine ts_sipush rfl dX11_drawn_96 ?_
      refine ts_iadd dX11_drawn_99 ?_
      refine tq_istore [tv_R 1, tv_U, tv_U, tv_I v3, tv_I v4, tv_I v5, tv_I (tv_w ((tv_w (v6 * 1103515245)) + 12345)), tv_I v7, tv_I v8, tv_I v9, tv_I v10, tv_U] (Nat.le_of_ble_eq_true rfl) rfl rfl dX11_drawn_100 ?_
      refine ts_aload_n (i := 0) rfl rfl dX11_drawn_102 ?_
      refine ts_iload rfl dX11_drawn_103 ?_
      refine ts_iload rfl dX11_drawn_105 ?_
      refine ts_bipush rfl dX11_drawn_107 ?_
      refine ts_iushr dX11_drawn_109 ?_
      refine ts_bipush rfl dX11_drawn_110 ?_
      refine td_iremK (by decide) dX11_drawn_112 ?_
      refine ts_bipush rfl dX11_drawn_113 ?_
      refine ts_iload rfl dX11_drawn_115 ?_
      refine ts_bipush rfl dX11_drawn_117 ?_
      refine ts_iushr dX11_drawn_119 ?_
      refine ts_bipush rfl dX11_drawn_120 ?_
      refine td_iremK (by decide) dX11_drawn_122 ?_
      refine ts_imul dX11_drawn_123 ?_
      refine ts_iadd dX11_drawn_124 ?_
      refine tq_callV (y2 := mX11_stingsOn) [tv_I v10, tv_I (tv_w ((tv_rem (tv_ushr (tv_w ((tv_w (v6 * 1103515245)) + 12345)) 6) 10) + (tv_w (10 * (tv_rem (tv_ushr (tv_w ((tv_w (v6 * 1103515245)) + 12345)) 12) 10)))))] [] 1 (st' := fun r1 => [tv_I r1]) tw_X11_stingsOn tx_X11_stingsOn tw_c11 ga_c_1 tl_X11_330 rfl rfl rfl rfl (fun _ => rfl) dX11_drawn_125 (S_X11_stingsOn l hE _ v10 (tv_w ((tv_rem (tv_ushr (tv_w ((tv_w (v6 * 1103515245)) + 12345)) 6) 10) + (tv_w (10 * (tv_rem (tv_ushr (tv_w ((tv_w (v6 * 1103515245)) + 12345)) 12) 10))))) D) (fun r1 D2 => ?_)
      refine tq_istore [tv_R 1, tv_U, tv_U, tv_I v3, tv_I v4, tv_I v5, tv_I (tv_w ((tv_w (v6 * 1103515245)) + 12345)), tv_I v7, tv_I v8, tv_I v9, tv_I v10, tv_I r1] (Nat.le_of_ble_eq_true rfl) rfl rfl dX11_drawn_128 ?_
      refine ts_iload rfl dX11_drawn_130 ?_
      refine ts_iload rfl dX11_drawn_132 ?_
      refine ts_iadd dX11_drawn_134 ?_
      refine tq_istore [tv_R 1, tv_U, tv_U, tv_I v3, tv_I v4, tv_I v5, tv_I (tv_w ((tv_w (v6 * 1103515245)) + 12345)), tv_I (tv_w (v7 + r1)), tv_I v8, tv_I v9, tv_I v10, tv_I r1] (Nat.le_of_ble_eq_true rfl) rfl rfl dX11_drawn_135 ?_
      refine ts_iload rfl dX11_drawn_137 ?_
      refine ts_iload rfl dX11_drawn_139 ?_
      refine td_if_le (tgt := 148) rfl dX11_drawn_141 ?_ ?_
      · refine ts_iconst rfl dX11_drawn_148 ?_
        refine ts_iadd dX11_drawn_149 ?_
        refine tq_istore [tv_R 1, tv_U, tv_U, tv_I v3, tv_I v4, tv_I v5, tv_I (tv_w ((tv_w (v6 * 1103515245)) + 12345)), tv_I (tv_w (v7 + r1)), tv_I (tv_w (v8 + 0)), tv_I v9, tv_I v10, tv_I r1] (Nat.le_of_ble_eq_true rfl) rfl rfl dX11_drawn_150 ?_
        refine tq_iinc [tv_R 1, tv_U, tv_U, tv_I v3, tv_I v4, tv_I v5, tv_I (tv_w ((tv_w (v6 * 1103515245)) + 12345)), tv_I (tv_w (v7 + r1)), tv_I (tv_w (v8 + 0)), tv_I v9, tv_I (tv_w (v10 + 1)), tv_I r1] rfl rfl rfl dX11_drawn_152 ?_
        refine ts_goto (tgt := 83) rfl dX11_drawn_155 ?_
        refine tv_weak (ls' := [tv_R 1, tv_U, tv_U, tv_I v3, tv_I v4, tv_I v5, tv_I (tv_w ((tv_w (v6 * 1103515245)) + 12345)), tv_I (tv_w (v7 + r1)), tv_I (tv_w (v8 + 0)), tv_I v9, tv_I (tv_w (v10 + 1)), tv_U]) ⟨Or.inr rfl, Or.inl rfl, Or.inl rfl, Or.inr rfl, Or.inr rfl, Or.inr rfl, Or.inr rfl, Or.inr rfl, Or.inr rfl, Or.inr rfl, Or.inr rfl, Or.inl rfl, trivial⟩ ?_
        exact ih v3 v4 v5 (tv_w ((tv_w (v6 * 1103515245)) + 12345)) (tv_w (v7 + r1)) (tv_w (v8 + 0)) v9 (tv_w (v10 + 1)) D2
      · refine ts_iconst rfl dX11_drawn_144 ?_
        refine ts_goto (tgt := 149) rfl dX11_drawn_145 ?_
        refine ts_iadd dX11_drawn_149 ?_
        refine tq_istore [tv_R 1, tv_U, tv_U, tv_I v3, tv_I v4, tv_I v5, tv_I (tv_w ((tv_w (v6 * 1103515245)) + 12345)), tv_I (tv_w (v7 + r1)), tv_I (tv_w (v8 + 1)), tv_I v9, tv_I v10, tv_I r1] (Nat.le_of_ble_eq_true rfl) rfl rfl dX11_drawn_150 ?_
        refine tq_iinc [tv_R 1, tv_U, tv_U, tv_I v3, tv_I v4, tv_I v5, tv_I (tv_w ((tv_w (v6 * 1103515245)) + 12345)), tv_I (tv_w (v7 + r1)), tv_I (tv_w (v8 + 1)), tv_I v9, tv_I (tv_w (v10 + 1)), tv_I r1] rfl rfl rfl dX11_drawn_152 ?_
        refine ts_goto (tgt := 83) rfl dX11_drawn_155 ?_
        refine tv_weak (ls' := [tv_R 1, tv_U, tv_U, tv_I v3, tv_I v4, tv_I v5, tv_I (tv_w ((tv_w (v6 * 1103515245)) + 12345)), tv_I (tv_w (v7 + r1)), tv_I (tv_w (v8 + 1)), tv_I v9, tv_I (tv_w (v10 + 1)), tv_U]) ⟨Or.inr rfl, Or.inl rfl, Or.inl rfl, Or.inr rfl, Or.inr rfl, Or.inr rfl, Or.inr rfl, Or.inr rfl, Or.inr rfl, Or.inr rfl, Or.inr rfl, Or.inl rfl, trivial⟩ ?_
        exact ih v3 v4 v5 (tv_w ((tv_w (v6 * 1103515245)) + 12345)) (tv_w (v7 + r1)) (tv_w (v8 + 1)) v9 (tv_w (v10 + 1)) D2
def F_X11_drawn_73 : Nat → Int → Int → Int → Int → Int → Int → Int → td_D → Option (Int × td_D)
  | 0, _, _, _, _, _, _, _, _ => none
  | n + 1, v3, v4, v5, v6, v7, v8, v9, D =>
    if v4 ≤ v9 then
      if v3 = 0 then
        some (v7, D)
      else
        some (v8, D)
    else
      F_X11_drawn_83 (fun v3 v4 v5 v6 v7 v8 v9 D => F_X11_drawn_73 n v3 v4 v5 v6 v7 v8 v9 D) tf_N v3 v4 v5 v6 v7 v8 v9 0 D
set_option maxHeartbeats 4000000 in
set_option maxRecDepth 20000 in
theorem S_X11_drawn_73 {l : Launch} {E : tv_E} (hE : tv_hE E) (d : Nat) : ∀ (n : Nat) (v3 : Int) (v4 : Int) (v5 : Int) (v6 : Int) (v7 : Int) (v8 : Int) (v9 : Int) (D : td_D), td_sim l E (d + 6) mX11_drawn g_c 73 [tv_R 1, tv_U, tv_U, tv_I v3, tv_I v4, tv_I v5, tv_I v6, tv_I v7, tv_I v8, tv_I v9, tv_U, tv_U] [] D (F_X11_drawn_73 n v3 v4 v5 v6 v7 v8 v9 D) := by
  intro n
  induction n with
  | zero => intros; exact tv_none
  | succ n ih =>
    intro v3 v4 v5 v6 v7 v8 v9 D
    show td_sim _ _ _ _ _ _ _ _ _ (F_X11_drawn_73 (n + 1) v3 v4 v5 v6 v7 v8 v9 D)
    unfold F_X11_drawn_73
    refine ts_iload rfl dX11_drawn_73 ?_
    refine ts_iload rfl dX11_drawn_75 ?_
    refine td_icmp_ge (tgt := 164) rfl dX11_drawn_77 ?_ ?_
    · refine ts_iload_n (i := 3) rfl rfl dX11_drawn_164 ?_
      refine td_if_ne (tgt := 173) rfl dX11_drawn_165 ?_ ?_
      · refine ts_iload rfl dX11_drawn_168 ?_
        refine ts_goto (tgt := 175) rfl dX11_drawn_170 ?_
        exact td_iret rfl dX11_drawn_175
      · refine ts_iload rfl dX11_drawn_173 ?_
        exact td_iret rfl dX11_drawn_175
    · refine ts_iconst rfl dX11_drawn_80 ?_
      refine tq_istore [tv_R 1, tv_U, tv_U, tv_I v3, tv_I v4, tv_I v5, tv_I v6, tv_I v7, tv_I v8, tv_I v9, tv_I 0, tv_U] (Nat.le_of_ble_eq_true rfl) rfl rfl dX11_drawn_81 ?_
      exact S_X11_drawn_83 hE d (fun v3 v4 v5 v6 v7 v8 v9 D => F_X11_drawn_73 n v3 v4 v5 v6 v7 v8 v9 D) (fun v3 v4 v5 v6 v7 v8 v9 D => ih v3 v4 v5 v6 v7 v8 v9 D) tf_N v3 v4 v5 v6 v7 v8 v9 0 D
def F_X11_drawn (a1 : Int) (a2 : Int) (a3 : Int) (D : td_D) : Option (Int × td_D) :=
  if a2 < 0 then
    some ((-1), D)
  else
    if tv_div a2 100 < 1 then
      some ((-1), D)
    else
      if 30 < tv_div a2 100 then
        some ((-1), D)
      else
        if tv_rem a2 100 < 1 then
          some ((-1), D)
        else
          if tv_rem a2 100 ≤ 30 then
            if a3 < 0 then
              some ((-1), D)
            else
              if a3 ≤ 1 then
                td_b (F_X11_foreseeMonth (tv_rem a2 100) D) fun _ D4 =>
                F_X11_drawn_73 tf_N a3 (tv_div a2 100) (tv_rem a2 100) a1 0 0 0 D4
              else
                some ((-1), D)
          else
            some ((-1), D)
set_option maxHeartbeats 4000000 in
set_option maxRecDepth 20000 in
theorem S_X11_drawn (l : Launch) {E : tv_E} (hE : tv_hE E) (d : Nat) (a1 : Int) (a2 : Int) (a3 : Int) (D : td_D) : td_msim l E (d + 6) mX11_drawn g_c [tv_R 1, tv_I a1, tv_I a2, tv_I a3] D (F_X11_drawn a1 a2 a3 D) := by
  refine td_meetL (ls := [tv_R 1, tv_I a1, tv_I a2, tv_I a3, tv_U, tv_U, tv_U, tv_U, tv_U, tv_U, tv_U, tv_U]) rfl (Nat.le_of_ble_eq_true rfl) rfl ?_
  unfold F_X11_drawn
  refine ts_iload_n (i := 2) rfl rfl dX11_drawn_0 ?_
  refine ts_bipush rfl dX11_drawn_1 ?_
  refine td_idivK (by decide) dX11_drawn_3 ?_
  refine tq_istore [tv_R 1, tv_I a1, tv_I a2, tv_I a3, tv_I (tv_div a2 100), tv_U, tv_U, tv_U, tv_U, tv_U, tv_U, tv_U] (Nat.le_of_ble_eq_true rfl) rfl rfl dX11_drawn_4 ?_
  refine ts_iload_n (i := 2) rfl rfl dX11_drawn_6 ?_
  refine ts_bipush rfl dX11_drawn_7 ?_
  refine td_iremK (by decide) dX11_drawn_9 ?_
  refine tq_istore [tv_R 1, tv_I a1, tv_I a2, tv_I a3, tv_I (tv_div a2 100), tv_I (tv_rem a2 100), tv_U, tv_U, tv_U, tv_U, tv_U, tv_U] (Nat.le_of_ble_eq_true rfl) rfl rfl dX11_drawn_10 ?_
  refine ts_iload_n (i := 2) rfl rfl dX11_drawn_12 ?_
  refine td_if_lt (tgt := 42) rfl dX11_drawn_13 ?_ ?_
  · refine ts_iconst rfl dX11_drawn_42 ?_
    exact td_iret rfl dX11_drawn_43
  · refine ts_iload rfl dX11_drawn_16 ?_
    refine ts_iconst rfl dX11_drawn_18 ?_
    refine td_icmp_lt (tgt := 42) rfl dX11_drawn_19 ?_ ?_
    · refine ts_iconst rfl dX11_drawn_42 ?_
      exact td_iret rfl dX11_drawn_43
    · refine ts_iload rfl dX11_drawn_22 ?_
      refine ts_bipush rfl dX11_drawn_24 ?_
      refine td_icmp_gt (tgt := 42) rfl dX11_drawn_26 ?_ ?_
      · refine ts_iconst rfl dX11_drawn_42 ?_
        exact td_iret rfl dX11_drawn_43
      · refine ts_iload rfl dX11_drawn_29 ?_
        refine ts_iconst rfl dX11_drawn_31 ?_
        refine td_icmp_lt (tgt := 42) rfl dX11_drawn_32 ?_ ?_
        · refine ts_iconst rfl dX11_drawn_42 ?_
          exact td_iret rfl dX11_drawn_43
        · refine ts_iload rfl dX11_drawn_35 ?_
          refine ts_bipush rfl dX11_drawn_37 ?_
          refine td_icmp_le (tgt := 44) rfl dX11_drawn_39 ?_ ?_
          · refine ts_iload_n (i := 3) rfl rfl dX11_drawn_44 ?_
            refine td_if_lt (tgt := 53) rfl dX11_drawn_45 ?_ ?_
            · refine ts_iconst rfl dX11_drawn_53 ?_
              exact td_iret rfl dX11_drawn_54
            · refine ts_iload_n (i := 3) rfl rfl dX11_drawn_48 ?_
              refine ts_iconst rfl dX11_drawn_49 ?_
              refine td_icmp_le (tgt := 55) rfl dX11_drawn_50 ?_ ?_
              · refine ts_aload_n (i := 0) rfl rfl dX11_drawn_55 ?_
                refine ts_iload rfl dX11_drawn_56 ?_
                refine tq_callV (y2 := mX11_foreseeMonth) [tv_I (tv_rem a2 100)] [] 1 (st' := fun _ => []) tw_X11_foreseeMonth tx_X11_foreseeMonth tw_c11 ga_c_1 tl_X11_325 rfl rfl rfl rfl (fun _ => rfl) dX11_drawn_58 (S_X11_foreseeMonth l hE _ (tv_rem a2 100) D) (fun r3 D4 => ?_)
                refine ts_iload_n (i := 1) rfl rfl dX11_drawn_61 ?_
                refine tq_istore [tv_R 1, tv_I a1, tv_I a2, tv_I a3, tv_I (tv_div a2 100), tv_I (tv_rem a2 100), tv_I a1, tv_U, tv_U, tv_U, tv_U, tv_U] (Nat.le_of_ble_eq_true rfl) rfl rfl dX11_drawn_62 ?_
                refine ts_iconst rfl dX11_drawn_64 ?_
                refine tq_istore [tv_R 1, tv_I a1, tv_I a2, tv_I a3, tv_I (tv_div a2 100), tv_I (tv_rem a2 100), tv_I a1, tv_I 0, tv_U, tv_U, tv_U, tv_U] (Nat.le_of_ble_eq_true rfl) rfl rfl dX11_drawn_65 ?_
                refine ts_iconst rfl dX11_drawn_67 ?_
                refine tq_istore [tv_R 1, tv_I a1, tv_I a2, tv_I a3, tv_I (tv_div a2 100), tv_I (tv_rem a2 100), tv_I a1, tv_I 0, tv_I 0, tv_U, tv_U, tv_U] (Nat.le_of_ble_eq_true rfl) rfl rfl dX11_drawn_68 ?_
                refine ts_iconst rfl dX11_drawn_70 ?_
                refine tq_istore [tv_R 1, tv_I a1, tv_I a2, tv_I a3, tv_I (tv_div a2 100), tv_I (tv_rem a2 100), tv_I a1, tv_I 0, tv_I 0, tv_I 0, tv_U, tv_U] (Nat.le_of_ble_eq_true rfl) rfl rfl dX11_drawn_71 ?_
                refine tv_weak (ls' := [tv_R 1, tv_U, tv_U, tv_I a3, tv_I (tv_div a2 100), tv_I (tv_rem a2 100), tv_I a1, tv_I 0, tv_I 0, tv_I 0, tv_U, tv_U]) ⟨Or.inr rfl, Or.inl rfl, Or.inl rfl, Or.inr rfl, Or.inr rfl, Or.inr rfl, Or.inr rfl, Or.inr rfl, Or.inr rfl, Or.inr rfl, Or.inl rfl, Or.inl rfl, trivial⟩ ?_
                exact S_X11_drawn_73 hE d tf_N a3 (tv_div a2 100) (tv_rem a2 100) a1 0 0 0 D4
              · refine ts_iconst rfl dX11_drawn_53 ?_
                exact td_iret rfl dX11_drawn_54
          · refine ts_iconst rfl dX11_drawn_42 ?_
            exact td_iret rfl dX11_drawn_43
def F_X11_takes (a1 : Int) (a2 : Int) (D : td_D) : Option (Int × td_D) :=
  td_b (F_X3_isShare a1 D) fun r1 D2 =>
  if r1 = 0 then
    some ((-1), D2)
  else
    if a2 < 1 then
      some ((-1), D2)
    else
      if a2 ≤ 99 then
        td_b (F_X7_share 5 (tv_div a1 10) (tv_rem a1 10) D2) fun r3 D4 =>
        if r3 < a2 then
          some ((-5), D4)
        else
          if 0 ≤ tv_rem a1 10 ∧ tv_rem a1 10 < ((6 : Nat) : Int) then
            if tv_w ((D4 3 (Int.toNat (tv_rem a1 10))) + a2) ≤ 99 then
              td_b (F_X7_lay 5 (tv_div a1 10) (tv_rem a1 10) (tv_w (r3 - a2)) D4) fun _ D7 =>
              td_l (td_upd D7 3 (Int.toNat (tv_rem a1 10)) (tv_w ((D7 3 (Int.toNat (tv_rem a1 10))) + a2))) fun D8 =>
              td_l (td_upd D8 42 (Int.toNat 0) (tv_w ((D8 42 (Int.toNat 0)) + a2))) fun D9 =>
              some (D9 3 (Int.toNat (tv_rem a1 10)), D9)
            else
              some ((-5), D4)
          else none
      else
        some ((-1), D2)
set_option maxHeartbeats 4000000 in
set_option maxRecDepth 20000 in
theorem S_X11_takes (l : Launch) {E : tv_E} (hE : tv_hE E) (d : Nat) (a1 : Int) (a2 : Int) (D : td_D) : td_msim l E (d + 2) mX11_takes g_c [tv_R 1, tv_I a1, tv_I a2] D (F_X11_takes a1 a2 D) := by
  refine td_meetL (ls := [tv_R 1, tv_I a1, tv_I a2, tv_U, tv_U, tv_U]) rfl (Nat.le_of_ble_eq_true rfl) rfl ?_
  unfold F_X11_takes
  refine ts_aload_n (i := 0) rfl rfl dX11_takes_0 ?_
  refine td_getR (q := 2) tl_X11_12 rfl ga_c_1 rfl dX11_takes_1 ?_
  refine ts_iload_n (i := 1) rfl rfl dX11_takes_4 ?_
  refine tq_callV (y2 := mX3_isShare) [tv_I a1] [] 2 (st' := fun r1 => [tv_I r1]) tw_X3_isShare tx_X3_isShare tw_c3 ga_c_2 tl_X11_333 rfl rfl rfl rfl (fun _ => rfl) dX11_takes_5 (S_X3_isShare l hE _ a1 D) (fun r1 D2 => ?_)
  refine td_if_eq (tgt := 22) rfl dX11_takes_8 ?_ ?_
  · refine ts_iconst rfl dX11_takes_22 ?_
    exact td_iret rfl dX11_takes_23
  · refine ts_iload_n (i := 2) rfl rfl dX11_takes_11 ?_
    refine ts_iconst rfl dX11_takes_12 ?_
    refine td_icmp_lt (tgt := 22) rfl dX11_takes_13 ?_ ?_
    · refine ts_iconst rfl dX11_takes_22 ?_
      exact td_iret rfl dX11_takes_23
    · refine ts_iload_n (i := 2) rfl rfl dX11_takes_16 ?_
      refine ts_bipush rfl dX11_takes_17 ?_
      refine td_icmp_le (tgt := 24) rfl dX11_takes_19 ?_ ?_
      · refine ts_iload_n (i := 1) rfl rfl dX11_takes_24 ?_
        refine ts_bipush rfl dX11_takes_25 ?_
        refine td_idivK (by decide) dX11_takes_27 ?_
        refine tq_istore_n [tv_R 1, tv_I a1, tv_I a2, tv_I (tv_div a1 10), tv_U, tv_U] rfl (Nat.le_of_ble_eq_true rfl) rfl rfl dX11_takes_28 ?_
        refine ts_iload_n (i := 1) rfl rfl dX11_takes_29 ?_
        refine ts_bipush rfl dX11_takes_30 ?_
        refine td_iremK (by decide) dX11_takes_32 ?_
        refine tq_istore [tv_R 1, tv_I a1, tv_I a2, tv_I (tv_div a1 10), tv_I (tv_rem a1 10), tv_U] (Nat.le_of_ble_eq_true rfl) rfl rfl dX11_takes_33 ?_
        refine ts_aload_n (i := 0) rfl rfl dX11_takes_35 ?_
        refine td_getR (q := 2) tl_X11_12 rfl ga_c_1 rfl dX11_takes_36 ?_
        refine td_getR (q := 5) tl_X11_175 rfl ga_c_2 rfl dX11_takes_39 ?_
        refine ts_iload_n (i := 3) rfl rfl dX11_takes_42 ?_
        refine ts_iload rfl dX11_takes_43 ?_
        refine tq_callV (y2 := mX7_share) [tv_I (tv_div a1 10), tv_I (tv_rem a1 10)] [] 5 (st' := fun r3 => [tv_I r3]) tw_X7_share tx_X7_share tw_c7 ga_c_5 tl_X11_192 rfl rfl rfl rfl (fun _ => rfl) dX11_takes_45 (S_X7_share l hE _ 5 (tv_div a1 10) (tv_rem a1 10) is_stock_5 D2) (fun r3 D4 => ?_)
        refine tq_istore [tv_R 1, tv_I a1, tv_I a2, tv_I (tv_div a1 10), tv_I (tv_rem a1 10), tv_I r3] (Nat.le_of_ble_eq_true rfl) rfl rfl dX11_takes_48 ?_
        refine ts_iload rfl dX11_takes_50 ?_
        refine ts_iload_n (i := 2) rfl rfl dX11_takes_52 ?_
        refine td_icmp_lt (tgt := 73) rfl dX11_takes_53 ?_ ?_
        · refine ts_bipush rfl dX11_takes_73 ?_
          exact td_iret rfl dX11_takes_75
        · refine ts_aload_n (i := 0) rfl rfl dX11_takes_56 ?_
          refine td_getR (q := 2) tl_X11_12 rfl ga_c_1 rfl dX11_takes_57 ?_
          refine td_getR (q := 3) tl_X11_225 rfl ga_c_2 rfl dX11_takes_60 ?_
          refine ts_iload rfl dX11_takes_63 ?_
          refine td_guard (fun h5 => ?_)
          refine td_ialdK ga_c_3 (gn_c_3 _) h5 dX11_takes_65 ?_
          refine ts_iload_n (i := 2) rfl rfl dX11_takes_66 ?_
          refine ts_iadd dX11_takes_67 ?_
          refine ts_bipush rfl dX11_takes_68 ?_
          refine td_icmp_le (tgt := 76) rfl dX11_takes_70 ?_ ?_
          · refine ts_aload_n (i := 0) rfl rfl dX11_takes_76 ?_
            refine td_getR (q := 2) tl_X11_12 rfl ga_c_1 rfl dX11_takes_77 ?_
            refine td_getR (q := 5) tl_X11_175 rfl ga_c_2 rfl dX11_takes_80 ?_
            refine ts_iload_n (i := 3) rfl rfl dX11_takes_83 ?_
            refine ts_iload rfl dX11_takes_84 ?_
            refine ts_iload rfl dX11_takes_86 ?_
            refine ts_iload_n (i := 2) rfl rfl dX11_takes_88 ?_
            refine ts_isub dX11_takes_89 ?_
            refine tq_callV (y2 := mX7_lay) [tv_I (tv_div a1 10), tv_I (tv_rem a1 10), tv_I (tv_w (r3 - a2))] [] 5 (st' := fun _ => []) tw_X7_lay tx_X7_lay tw_c7 ga_c_5 tl_X11_204 rfl rfl rfl rfl (fun _ => rfl) dX11_takes_90 (S_X7_lay l hE _ 5 (tv_div a1 10) (tv_rem a1 10) (tv_w (r3 - a2)) is_stock_5 D4) (fun r6 D7 => ?_)
            refine ts_aload_n (i := 0) rfl rfl dX11_takes_93 ?_
            refine td_getR (q := 2) tl_X11_12 rfl ga_c_1 rfl dX11_takes_94 ?_
            refine td_getR (q := 3) tl_X11_225 rfl ga_c_2 rfl dX11_takes_97 ?_
            refine ts_iload rfl dX11_takes_100 ?_
            refine ts_dup2 dX11_takes_102 ?_
            refine td_ialdK ga_c_3 (gn_c_3 _) h5 dX11_takes_103 ?_
            refine ts_iload_n (i := 2) rfl rfl dX11_takes_104 ?_
            refine ts_iadd dX11_takes_105 ?_
            refine td_iastK ga_c_3 (gn_c_3 _) h5 dX11_takes_106 ?_
            refine td_let (fun D8 => ?_)
            refine ts_aload_n (i := 0) rfl rfl dX11_takes_107 ?_
            refine td_getR (q := 42) tl_X11_82 rfl ga_c_1 rfl dX11_takes_108 ?_
            refine ts_iconst rfl dX11_takes_111 ?_
            refine ts_dup2 dX11_takes_112 ?_
            refine td_ialdK ga_c_42 (gn_c_42 _) ⟨by decide, by decide⟩ dX11_takes_113 ?_
            refine ts_iload_n (i := 2) rfl rfl dX11_takes_114 ?_
            refine ts_iadd dX11_takes_115 ?_
            refine td_iastK ga_c_42 (gn_c_42 _) ⟨by decide, by decide⟩ dX11_takes_116 ?_
            refine td_let (fun D9 => ?_)
            refine ts_aload_n (i := 0) rfl rfl dX11_takes_117 ?_
            refine td_getR (q := 2) tl_X11_12 rfl ga_c_1 rfl dX11_takes_118 ?_
            refine td_getR (q := 3) tl_X11_225 rfl ga_c_2 rfl dX11_takes_121 ?_
            refine ts_iload rfl dX11_takes_124 ?_
            refine td_ialdK ga_c_3 (gn_c_3 _) h5 dX11_takes_126 ?_
            exact td_iret rfl dX11_takes_127
          · refine ts_bipush rfl dX11_takes_73 ?_
            exact td_iret rfl dX11_takes_75
      · refine ts_iconst rfl dX11_takes_22 ?_
        exact td_iret rfl dX11_takes_23
def F_X11_puts (a1 : Int) (a2 : Int) (D : td_D) : Option (Int × td_D) :=
  td_b (F_X3_isShare a1 D) fun r1 D2 =>
  if r1 = 0 then
    some ((-1), D2)
  else
    if a2 < 1 then
      some ((-1), D2)
    else
      if a2 ≤ 99 then
        td_b (F_X7_share 5 (tv_div a1 10) (tv_rem a1 10) D2) fun r3 D4 =>
        if 0 ≤ tv_rem a1 10 ∧ tv_rem a1 10 < ((6 : Nat) : Int) then
          if D4 3 (Int.toNat (tv_rem a1 10)) < a2 then
            some ((-5), D4)
          else
            if tv_w (r3 + a2) ≤ 99 then
              td_b (F_X7_lay 5 (tv_div a1 10) (tv_rem a1 10) (tv_w (r3 + a2)) D4) fun _ D7 =>
              td_l (td_upd D7 3 (Int.toNat (tv_rem a1 10)) (tv_w ((D7 3 (Int.toNat (tv_rem a1 10))) - a2))) fun D8 =>
              td_l (td_upd D8 42 (Int.toNat 1) (tv_w ((D8 42 (Int.toNat 1)) + a2))) fun D9 =>
              some (tv_w (r3 + a2), D9)
            else
              some ((-5), D4)
        else none
      else
        some ((-1), D2)
set_option maxHeartbeats 4000000 in
set_option maxRecDepth 20000 in
theorem S_X11_puts (l : Launch) {E : tv_E} (hE : tv_hE E) (d : Nat) (a1 : Int) (a2 : Int) (D : td_D) : td_msim l E (d + 2) mX11_puts g_c [tv_R 1, tv_I a1, tv_I a2] D (F_X11_puts a1 a2 D) := by
  refine td_meetL (ls := [tv_R 1, tv_I a1, tv_I a2, tv_U, tv_U, tv_U]) rfl (Nat.le_of_ble_eq_true rfl) rfl ?_
  unfold F_X11_puts
  refine ts_aload_n (i := 0) rfl rfl dX11_puts_0 ?_
  refine td_getR (q := 2) tl_X11_12 rfl ga_c_1 rfl dX11_puts_1 ?_
  refine ts_iload_n (i := 1) rfl rfl dX11_puts_4 ?_
  refine tq_callV (y2 := mX3_isShare) [tv_I a1] [] 2 (st' := fun r1 => [tv_I r1]) tw_X3_isShare tx_X3_isShare tw_c3 ga_c_2 tl_X11_333 rfl rfl rfl rfl (fun _ => rfl) dX11_puts_5 (S_X3_isShare l hE _ a1 D) (fun r1 D2 => ?_)
  refine td_if_eq (tgt := 22) rfl dX11_puts_8 ?_ ?_
  · refine ts_iconst rfl dX11_puts_22 ?_
    exact td_iret rfl dX11_puts_23
  · refine ts_iload_n (i := 2) rfl rfl dX11_puts_11 ?_
    refine ts_iconst rfl dX11_puts_12 ?_
    refine td_icmp_lt (tgt := 22) rfl dX11_puts_13 ?_ ?_
    · refine ts_iconst rfl dX11_puts_22 ?_
      exact td_iret rfl dX11_puts_23
    · refine ts_iload_n (i := 2) rfl rfl dX11_puts_16 ?_
      refine ts_bipush rfl dX11_puts_17 ?_
      refine td_icmp_le (tgt := 24) rfl dX11_puts_19 ?_ ?_
      · refine ts_iload_n (i := 1) rfl rfl dX11_puts_24 ?_
        refine ts_bipush rfl dX11_puts_25 ?_
        refine td_idivK (by decide) dX11_puts_27 ?_
        refine tq_istore_n [tv_R 1, tv_I a1, tv_I a2, tv_I (tv_div a1 10), tv_U, tv_U] rfl (Nat.le_of_ble_eq_true rfl) rfl rfl dX11_puts_28 ?_
        refine ts_iload_n (i := 1) rfl rfl dX11_puts_29 ?_
        refine ts_bipush rfl dX11_puts_30 ?_
        refine td_iremK (by decide) dX11_puts_32 ?_
        refine tq_istore [tv_R 1, tv_I a1, tv_I a2, tv_I (tv_div a1 10), tv_I (tv_rem a1 10), tv_U] (Nat.le_of_ble_eq_true rfl) rfl rfl dX11_puts_33 ?_
        refine ts_aload_n (i := 0) rfl rfl dX11_puts_35 ?_
        refine td_getR (q := 2) tl_X11_12 rfl ga_c_1 rfl dX11_puts_36 ?_
        refine td_getR (q := 5) tl_X11_175 rfl ga_c_2 rfl dX11_puts_39 ?_
        refine ts_iload_n (i := 3) rfl rfl dX11_puts_42 ?_
        refine ts_iload rfl dX11_puts_43 ?_
        refine tq_callV (y2 := mX7_share) [tv_I (tv_div a1 10), tv_I (tv_rem a1 10)] [] 5 (st' := fun r3 => [tv_I r3]) tw_X7_share tx_X7_share tw_c7 ga_c_5 tl_X11_192 rfl rfl rfl rfl (fun _ => rfl) dX11_puts_45 (S_X7_share l hE _ 5 (tv_div a1 10) (tv_rem a1 10) is_stock_5 D2) (fun r3 D4 => ?_)
        refine tq_istore [tv_R 1, tv_I a1, tv_I a2, tv_I (tv_div a1 10), tv_I (tv_rem a1 10), tv_I r3] (Nat.le_of_ble_eq_true rfl) rfl rfl dX11_puts_48 ?_
        refine ts_aload_n (i := 0) rfl rfl dX11_puts_50 ?_
        refine td_getR (q := 2) tl_X11_12 rfl ga_c_1 rfl dX11_puts_51 ?_
        refine td_getR (q := 3) tl_X11_225 rfl ga_c_2 rfl dX11_puts_54 ?_
        refine ts_iload rfl dX11_puts_57 ?_
        refine td_guard (fun h5 => ?_)
        refine td_ialdK ga_c_3 (gn_c_3 _) h5 dX11_puts_59 ?_
        refine ts_iload_n (i := 2) rfl rfl dX11_puts_60 ?_
        refine td_icmp_lt (tgt := 73) rfl dX11_puts_61 ?_ ?_
        · refine ts_bipush rfl dX11_puts_73 ?_
          exact td_iret rfl dX11_puts_75
        · refine ts_iload rfl dX11_puts_64 ?_
          refine ts_iload_n (i := 2) rfl rfl dX11_puts_66 ?_
          refine ts_iadd dX11_puts_67 ?_
          refine ts_bipush rfl dX11_puts_68 ?_
          refine td_icmp_le (tgt := 76) rfl dX11_puts_70 ?_ ?_
          · refine ts_aload_n (i := 0) rfl rfl dX11_puts_76 ?_
            refine td_getR (q := 2) tl_X11_12 rfl ga_c_1 rfl dX11_puts_77 ?_
            refine td_getR (q := 5) tl_X11_175 rfl ga_c_2 rfl dX11_puts_80 ?_
            refine ts_iload_n (i := 3) rfl rfl dX11_puts_83 ?_
            refine ts_iload rfl dX11_puts_84 ?_
            refine ts_iload rfl dX11_puts_86 ?_
            refine ts_iload_n (i := 2) rfl rfl dX11_puts_88 ?_
            refine ts_iadd dX11_puts_89 ?_
            refine tq_callV (y2 := mX7_lay) [tv_I (tv_div a1 10), tv_I (tv_rem a1 10), tv_I (tv_w (r3 + a2))] [] 5 (st' := fun _ => []) tw_X7_lay tx_X7_lay tw_c7 ga_c_5 tl_X11_204 rfl rfl rfl rfl (fun _ => rfl) dX11_puts_90 (S_X7_lay l hE _ 5 (tv_div a1 10) (tv_rem a1 10) (tv_w (r3 + a2)) is_stock_5 D4) (fun r6 D7 => ?_)
            refine ts_aload_n (i := 0) rfl rfl dX11_puts_93 ?_
            refine td_getR (q := 2) tl_X11_12 rfl ga_c_1 rfl dX11_puts_94 ?_
            refine td_getR (q := 3) tl_X11_225 rfl ga_c_2 rfl dX11_puts_97 ?_
            refine ts_iload rfl dX11_puts_100 ?_
            refine ts_dup2 dX11_puts_102 ?_
            refine td_ialdK ga_c_3 (gn_c_3 _) h5 dX11_puts_103 ?_
            refine ts_iload_n (i := 2) rfl rfl dX11_puts_104 ?_
            refine ts_isub dX11_puts_105 ?_
            refine td_iastK ga_c_3 (gn_c_3 _) h5 dX11_puts_106 ?_
            refine td_let (fun D8 => ?_)
            refine ts_aload_n (i := 0) rfl rfl dX11_puts_107 ?_
            refine td_getR (q := 42) tl_X11_82 rfl ga_c_1 rfl dX11_puts_108 ?_
            refine ts_iconst rfl dX11_puts_111 ?_
            refine ts_dup2 dX11_puts_112 ?_
            refine td_ialdK ga_c_42 (gn_c_42 _) ⟨by decide, by decide⟩ dX11_puts_113 ?_
            refine ts_iload_n (i := 2) rfl rfl dX11_puts_114 ?_
            refine ts_iadd dX11_puts_115 ?_
            refine td_iastK ga_c_42 (gn_c_42 _) ⟨by decide, by decide⟩ dX11_puts_116 ?_
            refine td_let (fun D9 => ?_)
            refine ts_iload rfl dX11_puts_117 ?_
            refine ts_iload_n (i := 2) rfl rfl dX11_puts_119 ?_
            refine ts_iadd dX11_puts_120 ?_
            exact td_iret rfl dX11_puts_121
          · refine ts_bipush rfl dX11_puts_73 ?_
            exact td_iret rfl dX11_puts_75
      · refine ts_iconst rfl dX11_puts_22 ?_
        exact td_iret rfl dX11_puts_23
def F_X11_day_2 : Nat → Int → td_D → Option (Int × td_D)
  | 0, _, _ => none
  | n + 1, v1, D =>
    if D 2 1 ≤ v1 then
      td_l (td_upd D 42 (Int.toNat 2) (tv_w ((D 42 (Int.toNat 2)) + 1))) fun D1 =>
      td_b (F_X7_allInAll 5 D1) fun r2 D3 =>
      some (r2, D3)
    else
      td_b (F_X11_passDay 5 v1 0 D) fun r4 D5 =>
      F_X11_day_2 n (tv_w (v1 + 1)) D5
set_option maxHeartbeats 4000000 in
set_option maxRecDepth 20000 in
theorem S_X11_day_2 {l : Launch} {E : tv_E} (hE : tv_hE E) (d : Nat) : ∀ (n : Nat) (v1 : Int) (D : td_D), td_sim l E (d + 5) mX11_day g_c 2 [tv_R 1, tv_I v1] [] D (F_X11_day_2 n v1 D) := by
  intro n
  induction n with
  | zero => intros; exact tv_none
  | succ n ih =>
    intro v1 D
    show td_sim _ _ _ _ _ _ _ _ _ (F_X11_day_2 (n + 1) v1 D)
    unfold F_X11_day_2
    refine ts_iload_n (i := 1) rfl rfl dX11_day_2 ?_
    refine ts_aload_n (i := 0) rfl rfl dX11_day_3 ?_
    refine td_getR (q := 2) tl_X11_12 rfl ga_c_1 rfl dX11_day_4 ?_
    refine td_getI tl_X11_114 rfl ga_c_2 rfl dX11_day_7 ?_
    refine td_icmp_ge (tgt := 33) rfl dX11_day_10 ?_ ?_
    · refine ts_aload_n (i := 0) rfl rfl dX11_day_33 ?_
      refine td_getR (q := 42) tl_X11_82 rfl ga_c_1 rfl dX11_day_34 ?_
      refine ts_iconst rfl dX11_day_37 ?_
      refine ts_dup2 dX11_day_38 ?_
      refine td_ialdK ga_c_42 (gn_c_42 _) ⟨by decide, by decide⟩ dX11_day_39 ?_
      refine ts_iconst rfl dX11_day_40 ?_
      refine ts_iadd dX11_day_41 ?_
      refine td_iastK ga_c_42 (gn_c_42 _) ⟨by decide, by decide⟩ dX11_day_42 ?_
      refine td_let (fun D1 => ?_)
      refine ts_aload_n (i := 0) rfl rfl dX11_day_43 ?_
      refine td_getR (q := 2) tl_X11_12 rfl ga_c_1 rfl dX11_day_44 ?_
      refine td_getR (q := 5) tl_X11_175 rfl ga_c_2 rfl dX11_day_47 ?_
      refine tq_callV (y2 := mX7_allInAll) [] [] 5 (st' := fun r2 => [tv_I r2]) tw_X7_allInAll tx_X7_allInAll tw_c7 ga_c_5 tl_X11_321 rfl rfl rfl rfl (fun _ => rfl) dX11_day_50 (S_X7_allInAll l hE _ 5 is_stock_5 D1) (fun r2 D3 => ?_)
      exact td_iret rfl dX11_day_53
    · refine ts_aload_n (i := 0) rfl rfl dX11_day_13 ?_
      refine ts_aload_n (i := 0) rfl rfl dX11_day_14 ?_
      refine td_getR (q := 2) tl_X11_12 rfl ga_c_1 rfl dX11_day_15 ?_
      refine td_getR (q := 5) tl_X11_175 rfl ga_c_2 rfl dX11_day_18 ?_
      refine ts_iload_n (i := 1) rfl rfl dX11_day_21 ?_
      refine ts_iconst rfl dX11_day_22 ?_
      refine tq_callV (y2 := mX11_passDay) [tv_R 5, tv_I v1, tv_I 0] [] 1 (st' := fun r4 => [tv_I r4]) tw_X11_passDay tx_X11_passDay tw_c11 ga_c_1 tl_X11_182 rfl rfl rfl rfl (fun _ => rfl) dX11_day_23 (S_X11_passDay l hE _ 5 v1 0 is_stock_5 D) (fun r4 D5 => ?_)
      refine ts_popI dX11_day_26 ?_
      refine tq_iinc [tv_R 1, tv_I (tv_w (v1 + 1))] rfl rfl rfl dX11_day_27 ?_
      refine ts_goto (tgt := 2) rfl dX11_day_30 ?_
      exact ih (tv_w (v1 + 1)) D5
def F_X11_day (D : td_D) : Option (Int × td_D) :=
  F_X11_day_2 tf_N 0 D
set_option maxHeartbeats 4000000 in
set_option maxRecDepth 20000 in
theorem S_X11_day (l : Launch) {E : tv_E} (hE : tv_hE E) (d : Nat) (D : td_D) : td_msim l E (d + 5) mX11_day g_c [tv_R 1] D (F_X11_day D) := by
  refine td_meetL (ls := [tv_R 1, tv_U]) rfl (Nat.le_of_ble_eq_true rfl) rfl ?_
  unfold F_X11_day
  refine ts_iconst rfl dX11_day_0 ?_
  refine tq_istore_n [tv_R 1, tv_I 0] rfl (Nat.le_of_ble_eq_true rfl) rfl rfl dX11_day_1 ?_
  exact S_X11_day_2 hE d tf_N 0 D
def F_X11_does (a1 : Int) (D : td_D) : Option (Int × td_D) :=
  if a1 < 0 then
    some ((-1), D)
  else
    td_b (F_X3_isDeed (tv_div a1 10) D) fun r1 D2 =>
    if r1 = 0 then
      some ((-1), D2)
    else
      td_b (F_X3_isPerson (tv_rem a1 10) D2) fun r3 D4 =>
      if r3 = 0 then
        some ((-1), D4)
      else
        if 0 ≤ tv_rem a1 10 ∧ tv_rem a1 10 < ((6 : Nat) : Int) then
          td_b (F_X3_mayDo (tv_div a1 10) (D4 3 (Int.toNat (tv_rem a1 10))) D4) fun r6 D7 =>
          if r6 = 0 then
            some ((-5), D7)
          else
            if 0 ≤ tv_div a1 10 ∧ tv_div a1 10 < ((10 : Nat) : Int) then
              td_l (td_upd D7 3 (Int.toNat (tv_rem a1 10)) (tv_w ((D7 3 (Int.toNat (tv_rem a1 10))) - (tv_div (D7 7 (Int.toNat (tv_div a1 10))) 2)))) fun D9 =>
              td_l (td_upd D9 42 (Int.toNat 3) (tv_w ((D9 42 (Int.toNat 3)) + 1))) fun D10 =>
              td_l (td_upd D10 42 (Int.toNat 4) (tv_w ((D10 42 (Int.toNat 4)) + (D10 9 (Int.toNat (tv_div a1 10)))))) fun D11 =>
              some (D11 3 (Int.toNat (tv_rem a1 10)), D11)
            else none
        else none
set_option maxHeartbeats 4000000 in
set_option maxRecDepth 20000 in
theorem S_X11_does (l : Launch) {E : tv_E} (hE : tv_hE E) (d : Nat) (a1 : Int) (D : td_D) : td_msim l E (d + 1) mX11_does g_c [tv_R 1, tv_I a1] D (F_X11_does a1 D) := by
  refine td_meetL (ls := [tv_R 1, tv_I a1, tv_U, tv_U]) rfl (Nat.le_of_ble_eq_true rfl) rfl ?_
  unfold F_X11_does
  refine ts_iload_n (i := 1) rfl rfl dX11_does_0 ?_
  refine ts_bipush rfl dX11_does_1 ?_
  refine td_idivK (by decide) dX11_does_3 ?_
  refine tq_istore_n [tv_R 1, tv_I a1, tv_I (tv_div a1 10), tv_U] rfl (Nat.le_of_ble_eq_true rfl) rfl rfl dX11_does_4 ?_
  refine ts_iload_n (i := 1) rfl rfl dX11_does_5 ?_
  refine ts_bipush rfl dX11_does_6 ?_
  refine td_iremK (by decide) dX11_does_8 ?_
  refine tq_istore_n [tv_R 1, tv_I a1, tv_I (tv_div a1 10), tv_I (tv_rem a1 10)] rfl (Nat.le_of_ble_eq_true rfl) rfl rfl dX11_does_9 ?_
  refine ts_iload_n (i := 1) rfl rfl dX11_does_10 ?_
  refine td_if_lt (tgt := 36) rfl dX11_does_11 ?_ ?_
  · refine ts_iconst rfl dX11_does_36 ?_
    exact td_iret rfl dX11_does_37
  · refine ts_aload_n (i := 0) rfl rfl dX11_does_14 ?_
    refine td_getR (q := 2) tl_X11_12 rfl ga_c_1 rfl dX11_does_15 ?_
    refine ts_iload_n (i := 2) rfl rfl dX11_does_18 ?_
    refine tq_callV (y2 := mX3_isDeed) [tv_I (tv_div a1 10)] [] 2 (st' := fun r1 => [tv_I r1]) tw_X3_isDeed tx_X3_isDeed tw_c3 ga_c_2 tl_X11_257 rfl rfl rfl rfl (fun _ => rfl) dX11_does_19 (S_X3_isDeed l hE _ (tv_div a1 10) D) (fun r1 D2 => ?_)
    refine td_if_eq (tgt := 36) rfl dX11_does_22 ?_ ?_
    · refine ts_iconst rfl dX11_does_36 ?_
      exact td_iret rfl dX11_does_37
    · refine ts_aload_n (i := 0) rfl rfl dX11_does_25 ?_
      refine td_getR (q := 2) tl_X11_12 rfl ga_c_1 rfl dX11_does_26 ?_
      refine ts_iload_n (i := 3) rfl rfl dX11_does_29 ?_
      refine tq_callV (y2 := mX3_isPerson) [tv_I (tv_rem a1 10)] [] 2 (st' := fun r3 => [tv_I r3]) tw_X3_isPerson tx_X3_isPerson tw_c3 ga_c_2 tl_X11_172 rfl rfl rfl rfl (fun _ => rfl) dX11_does_30 (S_X3_isPerson l hE _ (tv_rem a1 10) D2) (fun r3 D4 => ?_)
      refine td_if_ne (tgt := 38) rfl dX11_does_33 ?_ ?_
      · refine ts_iconst rfl dX11_does_36 ?_
        exact td_iret rfl dX11_does_37
      · refine ts_aload_n (i := 0) rfl rfl dX11_does_38 ?_
        refine td_getR (q := 2) tl_X11_12 rfl ga_c_1 rfl dX11_does_39 ?_
        refine ts_iload_n (i := 2) rfl rfl dX11_does_42 ?_
        refine ts_aload_n (i := 0) rfl rfl dX11_does_43 ?_
        refine td_getR (q := 2) tl_X11_12 rfl ga_c_1 rfl dX11_does_44 ?_
        refine td_getR (q := 3) tl_X11_225 rfl ga_c_2 rfl dX11_does_47 ?_
        refine ts_iload_n (i := 3) rfl rfl dX11_does_50 ?_
        refine td_guard (fun h5 => ?_)
        refine td_ialdK ga_c_3 (gn_c_3 _) h5 dX11_does_51 ?_
        refine tq_callV (y2 := mX3_mayDo) [tv_I (tv_div a1 10), tv_I (D4 3 (Int.toNat (tv_rem a1 10)))] [] 2 (st' := fun r6 => [tv_I r6]) tw_X3_mayDo tx_X3_mayDo tw_c3 ga_c_2 tl_X11_336 rfl rfl rfl rfl (fun _ => rfl) dX11_does_52 (S_X3_mayDo l hE _ (tv_div a1 10) (D4 3 (Int.toNat (tv_rem a1 10))) D4) (fun r6 D7 => ?_)
        refine td_if_ne (tgt := 61) rfl dX11_does_55 ?_ ?_
        · refine ts_bipush rfl dX11_does_58 ?_
          exact td_iret rfl dX11_does_60
        · refine ts_aload_n (i := 0) rfl rfl dX11_does_61 ?_
          refine td_getR (q := 2) tl_X11_12 rfl ga_c_1 rfl dX11_does_62 ?_
          refine td_getR (q := 3) tl_X11_225 rfl ga_c_2 rfl dX11_does_65 ?_
          refine ts_iload_n (i := 3) rfl rfl dX11_does_68 ?_
          refine ts_dup2 dX11_does_69 ?_
          refine td_ialdK ga_c_3 (gn_c_3 _) h5 dX11_does_70 ?_
          refine ts_aload_n (i := 0) rfl rfl dX11_does_71 ?_
          refine td_getR (q := 2) tl_X11_12 rfl ga_c_1 rfl dX11_does_72 ?_
          refine td_getR (q := 7) tl_X11_234 rfl ga_c_2 rfl dX11_does_75 ?_
          refine ts_iload_n (i := 2) rfl rfl dX11_does_78 ?_
          refine td_guard (fun h8 => ?_)
          refine td_ialdK ga_c_7 (gn_c_7 _) h8 dX11_does_79 ?_
          refine ts_iconst rfl dX11_does_80 ?_
          refine td_idivK (by decide) dX11_does_81 ?_
          refine ts_isub dX11_does_82 ?_
          refine td_iastK ga_c_3 (gn_c_3 _) h5 dX11_does_83 ?_
          refine td_let (fun D9 => ?_)
          refine ts_aload_n (i := 0) rfl rfl dX11_does_84 ?_
          refine td_getR (q := 42) tl_X11_82 rfl ga_c_1 rfl dX11_does_85 ?_
          refine ts_iconst rfl dX11_does_88 ?_
          refine ts_dup2 dX11_does_89 ?_
          refine td_ialdK ga_c_42 (gn_c_42 _) ⟨by decide, by decide⟩ dX11_does_90 ?_
          refine ts_iconst rfl dX11_does_91 ?_
          refine ts_iadd dX11_does_92 ?_
          refine td_iastK ga_c_42 (gn_c_42 _) ⟨by decide, by decide⟩ dX11_does_93 ?_
          refine td_let (fun D10 => ?_)
          refine ts_aload_n (i := 0) rfl rfl dX11_does_94 ?_
          refine td_getR (q := 42) tl_X11_82 rfl ga_c_1 rfl dX11_does_95 ?_
          refine ts_iconst rfl dX11_does_98 ?_
          refine ts_dup2 dX11_does_99 ?_
          refine td_ialdK ga_c_42 (gn_c_42 _) ⟨by decide, by decide⟩ dX11_does_100 ?_
          refine ts_aload_n (i := 0) rfl rfl dX11_does_101 ?_
          refine td_getR (q := 2) tl_X11_12 rfl ga_c_1 rfl dX11_does_102 ?_
          refine td_getR (q := 9) tl_X11_340 rfl ga_c_2 rfl dX11_does_105 ?_
          refine ts_iload_n (i := 2) rfl rfl dX11_does_108 ?_
          refine td_ialdK ga_c_9 (gn_c_9 _) h8 dX11_does_109 ?_
          refine ts_iadd dX11_does_110 ?_
          refine td_iastK ga_c_42 (gn_c_42 _) ⟨by decide, by decide⟩ dX11_does_111 ?_
          refine td_let (fun D11 => ?_)
          refine ts_aload_n (i := 0) rfl rfl dX11_does_112 ?_
          refine td_getR (q := 2) tl_X11_12 rfl ga_c_1 rfl dX11_does_113 ?_
          refine td_getR (q := 3) tl_X11_225 rfl ga_c_2 rfl dX11_does_116 ?_
          refine ts_iload_n (i := 3) rfl rfl dX11_does_119 ?_
          refine td_ialdK ga_c_3 (gn_c_3 _) h5 dX11_does_120 ?_
          exact td_iret rfl dX11_does_121
def F_X11_marry (a1 : Int) (D : td_D) : Option (Int × td_D) :=
  if a1 < 0 then
    some ((-1), D)
  else
    td_b (F_X3_isPerson (tv_div a1 10) D) fun r1 D2 =>
    if r1 = 0 then
      some ((-1), D2)
    else
      td_b (F_X3_isPerson (tv_rem a1 10) D2) fun r3 D4 =>
      if r3 = 0 then
        some ((-1), D4)
      else
        if tv_div a1 10 = tv_rem a1 10 then
          some ((-1), D4)
        else
          if 0 ≤ tv_div a1 10 ∧ tv_div a1 10 < ((6 : Nat) : Int) then
            if 0 ≤ tv_rem a1 10 ∧ tv_rem a1 10 < ((6 : Nat) : Int) then
              if 0 ≤ tv_max (tv_div a1 10) (tv_rem a1 10) ∧ tv_max (tv_div a1 10) (tv_rem a1 10) < ((6 : Nat) : Int) then
                td_l (td_upd D4 3 (Int.toNat (tv_max (tv_div a1 10) (tv_rem a1 10))) (tv_div (tv_w ((D4 3 (Int.toNat (tv_div a1 10))) + (D4 3 (Int.toNat (tv_rem a1 10))))) 2)) fun D8 =>
                if 0 ≤ tv_min (tv_div a1 10) (tv_rem a1 10) ∧ tv_min (tv_div a1 10) (tv_rem a1 10) < ((6 : Nat) : Int) then
                  td_l (td_upd D8 3 (Int.toNat (tv_min (tv_div a1 10) (tv_rem a1 10))) (tv_w ((tv_w ((D4 3 (Int.toNat (tv_div a1 10))) + (D4 3 (Int.toNat (tv_rem a1 10))))) - (tv_div (tv_w ((D4 3 (Int.toNat (tv_div a1 10))) + (D4 3 (Int.toNat (tv_rem a1 10))))) 2)))) fun D10 =>
                  td_l (td_upd D10 42 (Int.toNat 5) (tv_w ((D10 42 (Int.toNat 5)) + 1))) fun D11 =>
                  some (D11 3 (Int.toNat (tv_div a1 10)), D11)
                else none
              else none
            else none
          else none
set_option maxHeartbeats 4000000 in
set_option maxRecDepth 20000 in
theorem S_X11_marry (l : Launch) {E : tv_E} (hE : tv_hE E) (d : Nat) (a1 : Int) (D : td_D) : td_msim l E (d + 1) mX11_marry g_c [tv_R 1, tv_I a1] D (F_X11_marry a1 D) := by
  refine td_meetL (ls := [tv_R 1, tv_I a1, tv_U, tv_U, tv_U]) rfl (Nat.le_of_ble_eq_true rfl) rfl ?_
  unfold F_X11_marry
  refine ts_iload_n (i := 1) rfl rfl dX11_marry_0 ?_
  refine ts_bipush rfl dX11_marry_1 ?_
  refine td_idivK (by decide) dX11_marry_3 ?_
  refine tq_istore_n [tv_R 1, tv_I a1, tv_I (tv_div a1 10), tv_U, tv_U] rfl (Nat.le_of_ble_eq_true rfl) rfl rfl dX11_marry_4 ?_
  refine ts_iload_n (i := 1) rfl rfl dX11_marry_5 ?_
  refine ts_bipush rfl dX11_marry_6 ?_
  refine td_iremK (by decide) dX11_marry_8 ?_
  refine tq_istore_n [tv_R 1, tv_I a1, tv_I (tv_div a1 10), tv_I (tv_rem a1 10), tv_U] rfl (Nat.le_of_ble_eq_true rfl) rfl rfl dX11_marry_9 ?_
  refine ts_iload_n (i := 1) rfl rfl dX11_marry_10 ?_
  refine td_if_lt (tgt := 41) rfl dX11_marry_11 ?_ ?_
  · refine ts_iconst rfl dX11_marry_41 ?_
    exact td_iret rfl dX11_marry_42
  · refine ts_aload_n (i := 0) rfl rfl dX11_marry_14 ?_
    refine td_getR (q := 2) tl_X11_12 rfl ga_c_1 rfl dX11_marry_15 ?_
    refine ts_iload_n (i := 2) rfl rfl dX11_marry_18 ?_
    refine tq_callV (y2 := mX3_isPerson) [tv_I (tv_div a1 10)] [] 2 (st' := fun r1 => [tv_I r1]) tw_X3_isPerson tx_X3_isPerson tw_c3 ga_c_2 tl_X11_172 rfl rfl rfl rfl (fun _ => rfl) dX11_marry_19 (S_X3_isPerson l hE _ (tv_div a1 10) D) (fun r1 D2 => ?_)
    refine td_if_eq (tgt := 41) rfl dX11_marry_22 ?_ ?_
    · refine ts_iconst rfl dX11_marry_41 ?_
      exact td_iret rfl dX11_marry_42
    · refine ts_aload_n (i := 0) rfl rfl dX11_marry_25 ?_
      refine td_getR (q := 2) tl_X11_12 rfl ga_c_1 rfl dX11_marry_26 ?_
      refine ts_iload_n (i := 3) rfl rfl dX11_marry_29 ?_
      refine tq_callV (y2 := mX3_isPerson) [tv_I (tv_rem a1 10)] [] 2 (st' := fun r3 => [tv_I r3]) tw_X3_isPerson tx_X3_isPerson tw_c3 ga_c_2 tl_X11_172 rfl rfl rfl rfl (fun _ => rfl) dX11_marry_30 (S_X3_isPerson l hE _ (tv_rem a1 10) D2) (fun r3 D4 => ?_)
      refine td_if_eq (tgt := 41) rfl dX11_marry_33 ?_ ?_
      · refine ts_iconst rfl dX11_marry_41 ?_
        exact td_iret rfl dX11_marry_42
      · refine ts_iload_n (i := 2) rfl rfl dX11_marry_36 ?_
        refine ts_iload_n (i := 3) rfl rfl dX11_marry_37 ?_
        refine td_icmp_ne (tgt := 43) rfl dX11_marry_38 ?_ ?_
        · refine ts_iconst rfl dX11_marry_41 ?_
          exact td_iret rfl dX11_marry_42
        · refine ts_aload_n (i := 0) rfl rfl dX11_marry_43 ?_
          refine td_getR (q := 2) tl_X11_12 rfl ga_c_1 rfl dX11_marry_44 ?_
          refine td_getR (q := 3) tl_X11_225 rfl ga_c_2 rfl dX11_marry_47 ?_
          refine ts_iload_n (i := 2) rfl rfl dX11_marry_50 ?_
          refine td_guard (fun h5 => ?_)
          refine td_ialdK ga_c_3 (gn_c_3 _) h5 dX11_marry_51 ?_
          refine ts_aload_n (i := 0) rfl rfl dX11_marry_52 ?_
          refine td_getR (q := 2) tl_X11_12 rfl ga_c_1 rfl dX11_marry_53 ?_
          refine td_getR (q := 3) tl_X11_225 rfl ga_c_2 rfl dX11_marry_56 ?_
          refine ts_iload_n (i := 3) rfl rfl dX11_marry_59 ?_
          refine td_guard (fun h6 => ?_)
          refine td_ialdK ga_c_3 (gn_c_3 _) h6 dX11_marry_60 ?_
          refine ts_iadd dX11_marry_61 ?_
          refine tq_istore [tv_R 1, tv_I a1, tv_I (tv_div a1 10), tv_I (tv_rem a1 10), tv_I (tv_w ((D4 3 (Int.toNat (tv_div a1 10))) + (D4 3 (Int.toNat (tv_rem a1 10)))))] (Nat.le_of_ble_eq_true rfl) rfl rfl dX11_marry_62 ?_
          refine ts_aload_n (i := 0) rfl rfl dX11_marry_64 ?_
          refine td_getR (q := 2) tl_X11_12 rfl ga_c_1 rfl dX11_marry_65 ?_
          refine td_getR (q := 3) tl_X11_225 rfl ga_c_2 rfl dX11_marry_68 ?_
          refine ts_iload_n (i := 2) rfl rfl dX11_marry_71 ?_
          refine ts_iload_n (i := 3) rfl rfl dX11_marry_72 ?_
          refine ts_mmax rfl rfl tl_X11_219 dX11_marry_73 ?_
          refine ts_iload rfl dX11_marry_76 ?_
          refine ts_iconst rfl dX11_marry_78 ?_
          refine td_idivK (by decide) dX11_marry_79 ?_
          refine td_guard (fun h7 => ?_)
          refine td_iastK ga_c_3 (gn_c_3 _) h7 dX11_marry_80 ?_
          refine td_let (fun D8 => ?_)
          refine ts_aload_n (i := 0) rfl rfl dX11_marry_81 ?_
          refine td_getR (q := 2) tl_X11_12 rfl ga_c_1 rfl dX11_marry_82 ?_
          refine td_getR (q := 3) tl_X11_225 rfl ga_c_2 rfl dX11_marry_85 ?_
          refine ts_iload_n (i := 2) rfl rfl dX11_marry_88 ?_
          refine ts_iload_n (i := 3) rfl rfl dX11_marry_89 ?_
          refine ts_mmin rfl rfl tl_X11_214 dX11_marry_90 ?_
          refine ts_iload rfl dX11_marry_93 ?_
          refine ts_iload rfl dX11_marry_95 ?_
          refine ts_iconst rfl dX11_marry_97 ?_
          refine td_idivK (by decide) dX11_marry_98 ?_
          refine ts_isub dX11_marry_99 ?_
          refine td_guard (fun h9 => ?_)
          refine td_iastK ga_c_3 (gn_c_3 _) h9 dX11_marry_100 ?_
          refine td_let (fun D10 => ?_)
          refine ts_aload_n (i := 0) rfl rfl dX11_marry_101 ?_
          refine td_getR (q := 42) tl_X11_82 rfl ga_c_1 rfl dX11_marry_102 ?_
          refine ts_iconst rfl dX11_marry_105 ?_
          refine ts_dup2 dX11_marry_106 ?_
          refine td_ialdK ga_c_42 (gn_c_42 _) ⟨by decide, by decide⟩ dX11_marry_107 ?_
          refine ts_iconst rfl dX11_marry_108 ?_
          refine ts_iadd dX11_marry_109 ?_
          refine td_iastK ga_c_42 (gn_c_42 _) ⟨by decide, by decide⟩ dX11_marry_110 ?_
          refine td_let (fun D11 => ?_)
          refine ts_aload_n (i := 0) rfl rfl dX11_marry_111 ?_
          refine td_getR (q := 2) tl_X11_12 rfl ga_c_1 rfl dX11_marry_112 ?_
          refine td_getR (q := 3) tl_X11_225 rfl ga_c_2 rfl dX11_marry_115 ?_
          refine ts_iload_n (i := 2) rfl rfl dX11_marry_118 ?_
          refine td_ialdK ga_c_3 (gn_c_3 _) h5 dX11_marry_119 ?_
          exact td_iret rfl dX11_marry_120
def F_X11_led (a1 : Int) (D : td_D) : Option (Int × td_D) :=
  if a1 < 0 then
    some ((-1), D)
  else
    if a1 < 6 then
      if 0 ≤ a1 ∧ a1 < ((6 : Nat) : Int) then
        some (D 42 (Int.toNat a1), D)
      else none
    else
      some ((-1), D)
set_option maxHeartbeats 4000000 in
set_option maxRecDepth 20000 in
theorem S_X11_led (l : Launch) {E : tv_E} (hE : tv_hE E) (d : Nat) (a1 : Int) (D : td_D) : td_msim l E (d + 0) mX11_led g_c [tv_R 1, tv_I a1] D (F_X11_led a1 D) := by
  refine td_meetL (ls := [tv_R 1, tv_I a1]) rfl (Nat.le_of_ble_eq_true rfl) rfl ?_
  unfold F_X11_led
  refine ts_iload_n (i := 1) rfl rfl dX11_led_0 ?_
  refine td_if_lt (tgt := 10) rfl dX11_led_1 ?_ ?_
  · refine ts_iconst rfl dX11_led_10 ?_
    refine ts_goto (tgt := 20) rfl dX11_led_11 ?_
    exact td_iret rfl dX11_led_20
  · refine ts_iload_n (i := 1) rfl rfl dX11_led_4 ?_
    refine ts_bipush rfl dX11_led_5 ?_
    refine td_icmp_lt (tgt := 14) rfl dX11_led_7 ?_ ?_
    · refine ts_aload_n (i := 0) rfl rfl dX11_led_14 ?_
      refine td_getR (q := 42) tl_X11_82 rfl ga_c_1 rfl dX11_led_15 ?_
      refine ts_iload_n (i := 1) rfl rfl dX11_led_18 ?_
      refine td_guard (fun h1 => ?_)
      refine td_ialdK ga_c_42 (gn_c_42 _) h1 dX11_led_19 ?_
      exact td_iret rfl dX11_led_20
    · refine ts_iconst rfl dX11_led_10 ?_
      refine ts_goto (tgt := 20) rfl dX11_led_11 ?_
      exact td_iret rfl dX11_led_20
def F_X11_image (D : td_D) : Option (Int × td_D) :=
  td_b (F_X2_take D) fun _ D2 =>
  some (D2 42 (Int.toNat 2), D2)
set_option maxHeartbeats 4000000 in
set_option maxRecDepth 20000 in
theorem S_X11_image (l : Launch) {E : tv_E} (hE : tv_hE E) (d : Nat) (D : td_D) : td_msim l E (d + 3) mX11_image g_c [tv_R 1] D (F_X11_image D) := by
  refine td_meetL (ls := [tv_R 1]) rfl (Nat.le_of_ble_eq_true rfl) rfl ?_
  unfold F_X11_image
  refine ts_aload_n (i := 0) rfl rfl dX11_image_0 ?_
  refine td_getR (q := 37) tl_X11_78 rfl ga_c_1 rfl dX11_image_1 ?_
  refine ts_aload_n (i := 0) rfl rfl dX11_image_4 ?_
  refine td_getR (q := 2) tl_X11_12 rfl ga_c_1 rfl dX11_image_5 ?_
  refine ts_aload_n (i := 0) rfl rfl dX11_image_8 ?_
  refine td_getR (q := 42) tl_X11_82 rfl ga_c_1 rfl dX11_image_9 ?_
  refine tq_callV (y2 := mX2_take) [tv_R 2, tv_R 42] [] 37 (st' := fun _ => []) tw_X2_take tx_X2_take tw_c2 ga_c_37 tl_X11_343 rfl rfl rfl rfl (fun _ => rfl) dX11_image_12 (S_X2_take l hE _ D) (fun r1 D2 => ?_)
  refine ts_aload_n (i := 0) rfl rfl dX11_image_15 ?_
  refine td_getR (q := 42) tl_X11_82 rfl ga_c_1 rfl dX11_image_16 ?_
  refine ts_iconst rfl dX11_image_19 ?_
  refine td_ialdK ga_c_42 (gn_c_42 _) ⟨by decide, by decide⟩ dX11_image_20 ?_
  exact td_iret rfl dX11_image_21
def F_X11_back (D : td_D) : Option (Int × td_D) :=
  if D 37 0 = 0 then
    some ((-5), D)
  else
    td_b (F_X2_layBack D) fun _ D2 =>
    some (D2 42 (Int.toNat 2), D2)
set_option maxHeartbeats 4000000 in
set_option maxRecDepth 20000 in
theorem S_X11_back (l : Launch) {E : tv_E} (hE : tv_hE E) (d : Nat) (D : td_D) : td_msim l E (d + 3) mX11_back g_c [tv_R 1] D (F_X11_back D) := by
  refine td_meetL (ls := [tv_R 1]) rfl (Nat.le_of_ble_eq_true rfl) rfl ?_
  unfold F_X11_back
  refine ts_aload_n (i := 0) rfl rfl dX11_back_0 ?_
  refine td_getR (q := 37) tl_X11_78 rfl ga_c_1 rfl dX11_back_1 ?_
  refine td_getI tl_X11_347 rfl ga_c_37 rfl dX11_back_4 ?_
  refine td_if_ne (tgt := 13) rfl dX11_back_7 ?_ ?_
  · refine ts_bipush rfl dX11_back_10 ?_
    exact td_iret rfl dX11_back_12
  · refine ts_aload_n (i := 0) rfl rfl dX11_back_13 ?_
    refine td_getR (q := 37) tl_X11_78 rfl ga_c_1 rfl dX11_back_14 ?_
    refine ts_aload_n (i := 0) rfl rfl dX11_back_17 ?_
    refine td_getR (q := 2) tl_X11_12 rfl ga_c_1 rfl dX11_back_18 ?_
    refine ts_aload_n (i := 0) rfl rfl dX11_back_21 ?_
    refine td_getR (q := 42) tl_X11_82 rfl ga_c_1 rfl dX11_back_22 ?_
    refine tq_callV (y2 := mX2_layBack) [tv_R 2, tv_R 42] [] 37 (st' := fun _ => []) tw_X2_layBack tx_X2_layBack tw_c2 ga_c_37 tl_X11_351 rfl rfl rfl rfl (fun _ => rfl) dX11_back_25 (S_X2_layBack l hE _ D) (fun r1 D2 => ?_)
    refine ts_aload_n (i := 0) rfl rfl dX11_back_28 ?_
    refine td_getR (q := 42) tl_X11_82 rfl ga_c_1 rfl dX11_back_29 ?_
    refine ts_iconst rfl dX11_back_32 ?_
    refine td_ialdK ga_c_42 (gn_c_42 _) ⟨by decide, by decide⟩ dX11_back_33 ?_
    exact td_iret rfl dX11_back_34
def F_X11_undo (D : td_D) : Option (Int × td_D) :=
  if D 32 5 = 0 then
    some ((-5), D)
  else
    td_l (td_upd D 32 5 (tv_w ((D 32 5) - 1))) fun D1 =>
    if 0 ≤ D1 32 5 ∧ D1 32 5 < ((40 : Nat) : Int) then
      td_b (F_X3_change (D1 33 (Int.toNat (D1 32 5))) (D1 34 (Int.toNat (D1 32 5))) (D1 35 (Int.toNat (D1 32 5))) D1) fun _ D4 =>
      some (D4 32 5, D4)
    else none
set_option maxHeartbeats 4000000 in
set_option maxRecDepth 20000 in
theorem S_X11_undo (l : Launch) {E : tv_E} (hE : tv_hE E) (d : Nat) (D : td_D) : td_msim l E (d + 2) mX11_undo g_c [tv_R 1] D (F_X11_undo D) := by
  refine td_meetL (ls := [tv_R 1, tv_U]) rfl (Nat.le_of_ble_eq_true rfl) rfl ?_
  unfold F_X11_undo
  refine ts_aload_n (i := 0) rfl rfl dX11_undo_0 ?_
  refine td_getR (q := 32) tl_X11_71 rfl ga_c_1 rfl dX11_undo_1 ?_
  refine td_getI tl_X11_354 rfl ga_c_32 rfl dX11_undo_4 ?_
  refine td_if_ne (tgt := 13) rfl dX11_undo_7 ?_ ?_
  · refine ts_bipush rfl dX11_undo_10 ?_
    exact td_iret rfl dX11_undo_12
  · refine ts_aload_n (i := 0) rfl rfl dX11_undo_13 ?_
    refine td_getR (q := 32) tl_X11_71 rfl ga_c_1 rfl dX11_undo_14 ?_
    refine ts_dupR dX11_undo_17 ?_
    refine td_getI tl_X11_354 rfl ga_c_32 rfl dX11_undo_18 ?_
    refine ts_iconst rfl dX11_undo_21 ?_
    refine ts_isub dX11_undo_22 ?_
    refine td_putI tf_X11_354 (by intro h; cases h) rfl ga_c_32 rfl dX11_undo_23 ?_
    refine td_let (fun D1 => ?_)
    refine ts_aload_n (i := 0) rfl rfl dX11_undo_26 ?_
    refine td_getR (q := 32) tl_X11_71 rfl ga_c_1 rfl dX11_undo_27 ?_
    refine td_getI tl_X11_354 rfl ga_c_32 rfl dX11_undo_30 ?_
    refine tq_istore_n [tv_R 1, tv_I (D1 32 5)] rfl (Nat.le_of_ble_eq_true rfl) rfl rfl dX11_undo_33 ?_
    refine ts_aload_n (i := 0) rfl rfl dX11_undo_34 ?_
    refine td_getR (q := 2) tl_X11_12 rfl ga_c_1 rfl dX11_undo_35 ?_
    refine ts_aload_n (i := 0) rfl rfl dX11_undo_38 ?_
    refine td_getR (q := 32) tl_X11_71 rfl ga_c_1 rfl dX11_undo_39 ?_
    refine td_getR (q := 33) tl_X11_357 rfl ga_c_32 rfl dX11_undo_42 ?_
    refine ts_iload_n (i := 1) rfl rfl dX11_undo_45 ?_
    refine td_guard (fun h2 => ?_)
    refine td_ialdK ga_c_33 (gn_c_33 _) h2 dX11_undo_46 ?_
    refine ts_aload_n (i := 0) rfl rfl dX11_undo_47 ?_
    refine td_getR (q := 32) tl_X11_71 rfl ga_c_1 rfl dX11_undo_48 ?_
    refine td_getR (q := 34) tl_X11_360 rfl ga_c_32 rfl dX11_undo_51 ?_
    refine ts_iload_n (i := 1) rfl rfl dX11_undo_54 ?_
    refine td_ialdK ga_c_34 (gn_c_34 _) h2 dX11_undo_55 ?_
    refine ts_aload_n (i := 0) rfl rfl dX11_undo_56 ?_
    refine td_getR (q := 32) tl_X11_71 rfl ga_c_1 rfl dX11_undo_57 ?_
    refine td_getR (q := 35) tl_X11_363 rfl ga_c_32 rfl dX11_undo_60 ?_
    refine ts_iload_n (i := 1) rfl rfl dX11_undo_63 ?_
    refine td_ialdK ga_c_35 (gn_c_35 _) h2 dX11_undo_64 ?_
    refine tq_callV (y2 := mX3_change) [tv_I (D1 33 (Int.toNat (D1 32 5))), tv_I (D1 34 (Int.toNat (D1 32 5))), tv_I (D1 35 (Int.toNat (D1 32 5)))] [] 2 (st' := fun _ => []) tw_X3_change tx_X3_change tw_c3 ga_c_2 tl_X11_155 rfl rfl rfl rfl (fun _ => rfl) dX11_undo_65 (S_X3_change l hE _ (D1 33 (Int.toNat (D1 32 5))) (D1 34 (Int.toNat (D1 32 5))) (D1 35 (Int.toNat (D1 32 5))) D1) (fun r3 D4 => ?_)
    refine ts_aload_n (i := 0) rfl rfl dX11_undo_68 ?_
    refine td_getR (q := 32) tl_X11_71 rfl ga_c_1 rfl dX11_undo_69 ?_
    refine td_getI tl_X11_354 rfl ga_c_32 rfl dX11_undo_72 ?_
    exact td_iret rfl dX11_undo_75
def F_X11_redo (D : td_D) : Option (Int × td_D) :=
  if D 32 5 < D 32 4 then
    if 0 ≤ D 32 5 ∧ D 32 5 < ((40 : Nat) : Int) then
      td_b (F_X3_change (D 33 (Int.toNat (D 32 5))) (D 34 (Int.toNat (D 32 5))) (D 36 (Int.toNat (D 32 5))) D) fun _ D3 =>
      td_l (td_upd D3 32 5 (tv_w ((D3 32 5) + 1))) fun D4 =>
      some (tv_w ((D4 32 4) - (D4 32 5)), D4)
    else none
  else
    some ((-5), D)
set_option maxHeartbeats 4000000 in
set_option maxRecDepth 20000 in
theorem S_X11_redo (l : Launch) {E : tv_E} (hE : tv_hE E) (d : Nat) (D : td_D) : td_msim l E (d + 2) mX11_redo g_c [tv_R 1] D (F_X11_redo D) := by
  refine td_meetL (ls := [tv_R 1, tv_U]) rfl (Nat.le_of_ble_eq_true rfl) rfl ?_
  unfold F_X11_redo
  refine ts_aload_n (i := 0) rfl rfl dX11_redo_0 ?_
  refine td_getR (q := 32) tl_X11_71 rfl ga_c_1 rfl dX11_redo_1 ?_
  refine td_getI tl_X11_354 rfl ga_c_32 rfl dX11_redo_4 ?_
  refine ts_aload_n (i := 0) rfl rfl dX11_redo_7 ?_
  refine td_getR (q := 32) tl_X11_71 rfl ga_c_1 rfl dX11_redo_8 ?_
  refine td_getI tl_X11_366 rfl ga_c_32 rfl dX11_redo_11 ?_
  refine td_icmp_lt (tgt := 20) rfl dX11_redo_14 ?_ ?_
  · refine ts_aload_n (i := 0) rfl rfl dX11_redo_20 ?_
    refine td_getR (q := 32) tl_X11_71 rfl ga_c_1 rfl dX11_redo_21 ?_
    refine td_getI tl_X11_354 rfl ga_c_32 rfl dX11_redo_24 ?_
    refine tq_istore_n [tv_R 1, tv_I (D 32 5)] rfl (Nat.le_of_ble_eq_true rfl) rfl rfl dX11_redo_27 ?_
    refine ts_aload_n (i := 0) rfl rfl dX11_redo_28 ?_
    refine td_getR (q := 2) tl_X11_12 rfl ga_c_1 rfl dX11_redo_29 ?_
    refine ts_aload_n (i := 0) rfl rfl dX11_redo_32 ?_
    refine td_getR (q := 32) tl_X11_71 rfl ga_c_1 rfl dX11_redo_33 ?_
    refine td_getR (q := 33) tl_X11_357 rfl ga_c_32 rfl dX11_redo_36 ?_
    refine ts_iload_n (i := 1) rfl rfl dX11_redo_39 ?_
    refine td_guard (fun h1 => ?_)
    refine td_ialdK ga_c_33 (gn_c_33 _) h1 dX11_redo_40 ?_
    refine ts_aload_n (i := 0) rfl rfl dX11_redo_41 ?_
    refine td_getR (q := 32) tl_X11_71 rfl ga_c_1 rfl dX11_redo_42 ?_
    refine td_getR (q := 34) tl_X11_360 rfl ga_c_32 rfl dX11_redo_45 ?_
    refine ts_iload_n (i := 1) rfl rfl dX11_redo_48 ?_
    refine td_ialdK ga_c_34 (gn_c_34 _) h1 dX11_redo_49 ?_
    refine ts_aload_n (i := 0) rfl rfl dX11_redo_50 ?_
    refine td_getR (q := 32) tl_X11_71 rfl ga_c_1 rfl dX11_redo_51 ?_
    refine td_getR (q := 36) tl_X11_367 rfl ga_c_32 rfl dX11_redo_54 ?_
    refine ts_iload_n (i := 1) rfl rfl dX11_redo_57 ?_
    refine td_ialdK ga_c_36 (gn_c_36 _) h1 dX11_redo_58 ?_
    refine tq_callV (y2 := mX3_change) [tv_I (D 33 (Int.toNat (D 32 5))), tv_I (D 34 (Int.toNat (D 32 5))), tv_I (D 36 (Int.toNat (D 32 5)))] [] 2 (st' := fun _ => []) tw_X3_change tx_X3_change tw_c3 ga_c_2 tl_X11_155 rfl rfl rfl rfl (fun _ => rfl) dX11_redo_59 (S_X3_change l hE _ (D 33 (Int.toNat (D 32 5))) (D 34 (Int.toNat (D 32 5))) (D 36 (Int.toNat (D 32 5))) D) (fun r2 D3 => ?_)
    refine ts_aload_n (i := 0) rfl rfl dX11_redo_62 ?_
    refine td_getR (q := 32) tl_X11_71 rfl ga_c_1 rfl dX11_redo_63 ?_
    refine ts_dupR dX11_redo_66 ?_
    refine td_getI tl_X11_354 rfl ga_c_32 rfl dX11_redo_67 ?_
    refine ts_iconst rfl dX11_redo_70 ?_
    refine ts_iadd dX11_redo_71 ?_
    refine td_putI tf_X11_354 (by intro h; cases h) rfl ga_c_32 rfl dX11_redo_72 ?_
    refine td_let (fun D4 => ?_)
    refine ts_aload_n (i := 0) rfl rfl dX11_redo_75 ?_
    refine td_getR (q := 32) tl_X11_71 rfl ga_c_1 rfl dX11_redo_76 ?_
    refine td_getI tl_X11_366 rfl ga_c_32 rfl dX11_redo_79 ?_
    refine ts_aload_n (i := 0) rfl rfl dX11_redo_82 ?_
    refine td_getR (q := 32) tl_X11_71 rfl ga_c_1 rfl dX11_redo_83 ?_
    refine td_getI tl_X11_354 rfl ga_c_32 rfl dX11_redo_86 ?_
    refine ts_isub dX11_redo_89 ?_
    exact td_iret rfl dX11_redo_90
  · refine ts_bipush rfl dX11_redo_17 ?_
    exact td_iret rfl dX11_redo_19
def F_X11_isKind (a0 : Int) (D : td_D) : Option (Int × td_D) :=
  if a0 < 0 then
    some (0, D)
  else
    if 8 ≤ a0 then
      some (0, D)
    else
      some (1, D)
set_option maxHeartbeats 4000000 in
set_option maxRecDepth 20000 in
theorem S_X11_isKind (l : Launch) {E : tv_E} (hE : tv_hE E) (d : Nat) (a0 : Int) (D : td_D) : td_msim l E (d + 0) mX11_isKind g_c [tv_I a0] D (F_X11_isKind a0 D) := by
  refine td_meetL (ls := [tv_I a0]) rfl (Nat.le_of_ble_eq_true rfl) rfl ?_
  unfold F_X11_isKind
  refine ts_iload_n (i := 0) rfl rfl dX11_isKind_0 ?_
  refine td_if_lt (tgt := 14) rfl dX11_isKind_1 ?_ ?_
  · refine ts_iconst rfl dX11_isKind_14 ?_
    exact td_zretK (Or.inl rfl) rfl dX11_isKind_15
  · refine ts_iload_n (i := 0) rfl rfl dX11_isKind_4 ?_
    refine ts_bipush rfl dX11_isKind_5 ?_
    refine td_icmp_ge (tgt := 14) rfl dX11_isKind_7 ?_ ?_
    · refine ts_iconst rfl dX11_isKind_14 ?_
      exact td_zretK (Or.inl rfl) rfl dX11_isKind_15
    · refine ts_iconst rfl dX11_isKind_10 ?_
      refine ts_goto (tgt := 15) rfl dX11_isKind_11 ?_
      exact td_zretK (Or.inr rfl) rfl dX11_isKind_15
def F_X11_body (a1 : Int) (D : td_D) : Option (Int × td_D) :=
  td_b (F_X11_isKind a1 D) fun r1 D2 =>
  if r1 = 0 then
    some ((-1), D2)
  else
    if D2 43 1 < 50 then
      td_b (F_X8_add a1 D2) fun r3 D4 =>
      some (r3, D4)
    else
      some ((-3), D2)
set_option maxHeartbeats 4000000 in
set_option maxRecDepth 20000 in
theorem S_X11_body (l : Launch) {E : tv_E} (hE : tv_hE E) (d : Nat) (a1 : Int) (D : td_D) : td_msim l E (d + 1) mX11_body g_c [tv_R 1, tv_I a1] D (F_X11_body a1 D) := by
  refine td_meetL (ls := [tv_R 1, tv_I a1]) rfl (Nat.le_of_ble_eq_true rfl) rfl ?_
  unfold F_X11_body
  refine ts_iload_n (i := 1) rfl rfl dX11_body_0 ?_
  refine tq_callS (y2 := mX11_isKind) [tv_I a1] [] (st' := fun r1 => [tv_I r1]) tw_X11_isKind tx_X11_isKind tl_X11_370 rfl rfl rfl rfl (fun _ => rfl) dX11_body_1 (S_X11_isKind l hE _ a1 D) (fun r1 D2 => ?_)
  refine td_if_ne (tgt := 9) rfl dX11_body_4 ?_ ?_
  · refine ts_iconst rfl dX11_body_7 ?_
    exact td_iret rfl dX11_body_8
  · refine ts_aload_n (i := 0) rfl rfl dX11_body_9 ?_
    refine td_getR (q := 43) tl_X11_88 rfl ga_c_1 rfl dX11_body_10 ?_
    refine td_getI tl_X11_373 rfl ga_c_43 rfl dX11_body_13 ?_
    refine ts_bipush rfl dX11_body_16 ?_
    refine td_icmp_lt (tgt := 26) rfl dX11_body_18 ?_ ?_
    · refine ts_aload_n (i := 0) rfl rfl dX11_body_26 ?_
      refine td_getR (q := 43) tl_X11_88 rfl ga_c_1 rfl dX11_body_27 ?_
      refine ts_iload_n (i := 1) rfl rfl dX11_body_30 ?_
      refine tq_callV (y2 := mX8_add) [tv_I a1] [] 43 (st' := fun r3 => [tv_I r3]) tw_X8_add tx_X8_add tw_c8 ga_c_43 tl_X11_374 rfl rfl rfl rfl (fun _ => rfl) dX11_body_31 (S_X8_add l hE _ a1 D2) (fun r3 D4 => ?_)
      exact td_iret rfl dX11_body_34
    · refine ts_bipush rfl dX11_body_21 ?_
      refine ts_goto (tgt := 34) rfl dX11_body_23 ?_
      exact td_iret rfl dX11_body_34
def F_X11_trace (a1 : Int) (D : td_D) : Option (Int × td_D) :=
  if a1 < 0 then
    some ((-1), D)
  else
    if D 43 3 ≤ a1 then
      some ((-1), D)
    else
      if a1 < 24 then
        if 0 ≤ a1 ∧ a1 < ((24 : Nat) : Int) then
          some (D 45 (Int.toNat a1), D)
        else none
      else
        some ((-1), D)
set_option maxHeartbeats 4000000 in
set_option maxRecDepth 20000 in
theorem S_X11_trace (l : Launch) {E : tv_E} (hE : tv_hE E) (d : Nat) (a1 : Int) (D : td_D) : td_msim l E (d + 0) mX11_trace g_c [tv_R 1, tv_I a1] D (F_X11_trace a1 D) := by
  refine td_meetL (ls := [tv_R 1, tv_I a1]) rfl (Nat.le_of_ble_eq_true rfl) rfl ?_
  unfold F_X11_trace
  refine ts_iload_n (i := 1) rfl rfl dX11_trace_0 ?_
  refine td_if_lt (tgt := 21) rfl dX11_trace_1 ?_ ?_
  · refine ts_iconst rfl dX11_trace_21 ?_
    refine ts_goto (tgt := 34) rfl dX11_trace_22 ?_
    exact td_iret rfl dX11_trace_34
  · refine ts_iload_n (i := 1) rfl rfl dX11_trace_4 ?_
    refine ts_aload_n (i := 0) rfl rfl dX11_trace_5 ?_
    refine td_getR (q := 43) tl_X11_88 rfl ga_c_1 rfl dX11_trace_6 ?_
    refine td_getI tl_X11_375 rfl ga_c_43 rfl dX11_trace_9 ?_
    refine td_icmp_ge (tgt := 21) rfl dX11_trace_12 ?_ ?_
    · refine ts_iconst rfl dX11_trace_21 ?_
      refine ts_goto (tgt := 34) rfl dX11_trace_22 ?_
      exact td_iret rfl dX11_trace_34
    · refine ts_iload_n (i := 1) rfl rfl dX11_trace_15 ?_
      refine ts_bipush rfl dX11_trace_16 ?_
      refine td_icmp_lt (tgt := 25) rfl dX11_trace_18 ?_ ?_
      · refine ts_aload_n (i := 0) rfl rfl dX11_trace_25 ?_
        refine td_getR (q := 43) tl_X11_88 rfl ga_c_1 rfl dX11_trace_26 ?_
        refine td_getR (q := 45) tl_X11_384 rfl ga_c_43 rfl dX11_trace_29 ?_
        refine ts_iload_n (i := 1) rfl rfl dX11_trace_32 ?_
        refine td_guard (fun h1 => ?_)
        refine td_ialdK ga_c_45 (gn_c_45 _) h1 dX11_trace_33 ?_
        exact td_iret rfl dX11_trace_34
      · refine ts_iconst rfl dX11_trace_21 ?_
        refine ts_goto (tgt := 34) rfl dX11_trace_22 ?_
        exact td_iret rfl dX11_trace_34
def F_X11_keep_41 (v1 : Int) (v2 : Int) (s0 : Nat) (s1 : Int) (D : td_D) : Option (Int × td_D) :=
  td_l (td_upd D s0 0 s1) fun D1 =>
  if 0 ≤ v1 ∧ v1 < ((6 : Nat) : Int) then
    td_l (td_upd D1 (td_r g_c 46 (Int.toNat v1)) 1 v2) fun D3 =>
    td_l (td_upd D3 (td_r g_c 46 (Int.toNat v1)) 2 0) fun D4 =>
    some (1, D4)
  else none
set_option maxHeartbeats 4000000 in
set_option maxRecDepth 20000 in
theorem S_X11_keep_41 {l : Launch} {E : tv_E} (hE : tv_hE E) (d : Nat) (v1 : Int) (v2 : Int) (s0 : Nat) (s1 : Int) (hs0 : tv_isShelf s0) (D : td_D) : td_sim l E (d + 1) mX11_keep g_c 41 [tv_R 1, tv_I v1, tv_I v2] [tv_I s1, tv_R s0] D (F_X11_keep_41 v1 v2 s0 s1 D) := by
  unfold F_X11_keep_41
  refine td_putI tf_X11_134 (by intro h; cases h) rfl hs0.1 hs0.2.2.1 dX11_keep_41 ?_
  refine td_let (fun D1 => ?_)
  refine ts_aload_n (i := 0) rfl rfl dX11_keep_44 ?_
  refine td_getR (q := 46) tl_X11_94 rfl ga_c_1 rfl dX11_keep_45 ?_
  refine ts_iload_n (i := 1) rfl rfl dX11_keep_48 ?_
  refine td_guard (fun h2 => ?_)
  refine td_aaldK ga_c_46 (by decide) h2 dX11_keep_49 ?_
  refine ts_iload_n (i := 2) rfl rfl dX11_keep_50 ?_
  refine td_putI tf_X11_387 (by intro h; cases h) rfl (is_shelf_of h2).1 (is_shelf_of h2).2.2.2.1 dX11_keep_51 ?_
  refine td_let (fun D3 => ?_)
  refine ts_aload_n (i := 0) rfl rfl dX11_keep_54 ?_
  refine td_getR (q := 46) tl_X11_94 rfl ga_c_1 rfl dX11_keep_55 ?_
  refine ts_iload_n (i := 1) rfl rfl dX11_keep_58 ?_
  refine td_aaldK ga_c_46 (by decide) h2 dX11_keep_59 ?_
  refine ts_iconst rfl dX11_keep_60 ?_
  refine td_putI tf_X11_320 (by intro h; cases h) rfl (is_shelf_of h2).1 (is_shelf_of h2).2.2.2.2 dX11_keep_61 ?_
  refine td_let (fun D4 => ?_)
  refine ts_iconst rfl dX11_keep_64 ?_
  exact td_iret rfl dX11_keep_65
def F_X11_keep (a1 : Int) (a2 : Int) (D : td_D) : Option (Int × td_D) :=
  td_b (F_X11_isShelf a1 D) fun r5 D6 =>
  if r5 = 0 then
    some ((-1), D6)
  else
    if a2 = (-1) then
      if 0 ≤ a1 ∧ a1 < ((6 : Nat) : Int) then
        if a2 = (-1) then
          F_X11_keep_41 a1 a2 (td_r g_c 46 (Int.toNat a1)) ((-1)) D6
        else
          F_X11_keep_41 a1 a2 (td_r g_c 46 (Int.toNat a1)) 5 D6
      else none
    else
      td_b (F_X8_isBody a2 D6) fun r8 D9 =>
      if r8 = 0 then
        some ((-1), D9)
      else
        if 0 ≤ a1 ∧ a1 < ((6 : Nat) : Int) then
          if a2 = (-1) then
            F_X11_keep_41 a1 a2 (td_r g_c 46 (Int.toNat a1)) ((-1)) D9
          else
            F_X11_keep_41 a1 a2 (td_r g_c 46 (Int.toNat a1)) 5 D9
        else none
set_option maxHeartbeats 4000000 in
set_option maxRecDepth 20000 in
theorem S_X11_keep (l : Launch) {E : tv_E} (hE : tv_hE E) (d : Nat) (a1 : Int) (a2 : Int) (D : td_D) : td_msim l E (d + 1) mX11_keep g_c [tv_R 1, tv_I a1, tv_I a2] D (F_X11_keep a1 a2 D) := by
  refine td_meetL (ls := [tv_R 1, tv_I a1, tv_I a2]) rfl (Nat.le_of_ble_eq_true rfl) rfl ?_
  unfold F_X11_keep
  refine ts_iload_n (i := 1) rfl rfl dX11_keep_0 ?_
  refine tq_callS (y2 := mX11_isShelf) [tv_I a1] [] (st' := fun r5 => [tv_I r5]) tw_X11_isShelf tx_X11_isShelf tl_X11_131 rfl rfl rfl rfl (fun _ => rfl) dX11_keep_1 (S_X11_isShelf l hE _ a1 D) (fun r5 D6 => ?_)
  refine td_if_eq (tgt := 23) rfl dX11_keep_4 ?_ ?_
  · refine ts_iconst rfl dX11_keep_23 ?_
    exact td_iret rfl dX11_keep_24
  · refine ts_iload_n (i := 2) rfl rfl dX11_keep_7 ?_
    refine ts_iconst rfl dX11_keep_8 ?_
    refine td_icmp_eq (tgt := 25) rfl dX11_keep_9 ?_ ?_
    · refine ts_aload_n (i := 0) rfl rfl dX11_keep_25 ?_
      refine td_getR (q := 46) tl_X11_94 rfl ga_c_1 rfl dX11_keep_26 ?_
      refine ts_iload_n (i := 1) rfl rfl dX11_keep_29 ?_
      refine td_guard (fun h7 => ?_)
      refine td_aaldK ga_c_46 (by decide) h7 dX11_keep_30 ?_
      refine ts_iload_n (i := 2) rfl rfl dX11_keep_31 ?_
      refine ts_iconst rfl dX11_keep_32 ?_
      refine td_icmp_ne (tgt := 40) rfl dX11_keep_33 ?_ ?_
      · refine ts_iconst rfl dX11_keep_36 ?_
        refine ts_goto (tgt := 41) rfl dX11_keep_37 ?_
        exact S_X11_keep_41 hE d a1 a2 (td_r g_c 46 (Int.toNat a1)) ((-1)) (is_shelf_of h7) D6
      · refine ts_iconst rfl dX11_keep_40 ?_
        exact S_X11_keep_41 hE d a1 a2 (td_r g_c 46 (Int.toNat a1)) 5 (is_shelf_of h7) D6
    · refine ts_aload_n (i := 0) rfl rfl dX11_keep_12 ?_
      refine td_getR (q := 43) tl_X11_88 rfl ga_c_1 rfl dX11_keep_13 ?_
      refine ts_iload_n (i := 2) rfl rfl dX11_keep_16 ?_
      refine tq_callV (y2 := mX8_isBody) [tv_I a2] [] 43 (st' := fun r8 => [tv_I r8]) tw_X8_isBody tx_X8_isBody tw_c8 ga_c_43 tl_X11_378 rfl rfl rfl rfl (fun _ => rfl) dX11_keep_17 (S_X8_isBody l hE _ a2 D6) (fun r8 D9 => ?_)
      refine td_if_ne (tgt := 25) rfl dX11_keep_20 ?_ ?_
      · refine ts_iconst rfl dX11_keep_23 ?_
        exact td_iret rfl dX11_keep_24
      · refine ts_aload_n (i := 0) rfl rfl dX11_keep_25 ?_
        refine td_getR (q := 46) tl_X11_94 rfl ga_c_1 rfl dX11_keep_26 ?_
        refine ts_iload_n (i := 1) rfl rfl dX11_keep_29 ?_
        refine td_guard (fun h10 => ?_)
        refine td_aaldK ga_c_46 (by decide) h10 dX11_keep_30 ?_
        refine ts_iload_n (i := 2) rfl rfl dX11_keep_31 ?_
        refine ts_iconst rfl dX11_keep_32 ?_
        refine td_icmp_ne (tgt := 40) rfl dX11_keep_33 ?_ ?_
        · refine ts_iconst rfl dX11_keep_36 ?_
          refine ts_goto (tgt := 41) rfl dX11_keep_37 ?_
          exact S_X11_keep_41 hE d a1 a2 (td_r g_c 46 (Int.toNat a1)) ((-1)) (is_shelf_of h10) D9
        · refine ts_iconst rfl dX11_keep_40 ?_
          exact S_X11_keep_41 hE d a1 a2 (td_r g_c 46 (Int.toNat a1)) 5 (is_shelf_of h10) D9
def F_X11_row (a1 : Int) (a2 : Int) (a3 : Int) (D : td_D) : Option (Int × td_D) :=
  td_b (F_X11_isShelf a1 D) fun r1 D2 =>
  if r1 = 0 then
    some ((-1), D2)
  else
    if a2 < 0 then
      some ((-1), D2)
    else
      if 4 < a2 then
        some ((-1), D2)
      else
        if a3 ≤ 60 then
          if 0 ≤ a3 then
            if 0 ≤ a1 ∧ a1 < ((6 : Nat) : Int) then
              td_b (F_X6_clear (td_r g_c 46 (Int.toNat a1)) a2 a3 D2) fun _ D5 =>
              some (1, D5)
            else none
          else
            some ((-14), D2)
        else
          some ((-1), D2)
set_option maxHeartbeats 4000000 in
set_option maxRecDepth 20000 in
theorem S_X11_row (l : Launch) {E : tv_E} (hE : tv_hE E) (d : Nat) (a1 : Int) (a2 : Int) (a3 : Int) (D : td_D) : td_msim l E (d + 1) mX11_row g_c [tv_R 1, tv_I a1, tv_I a2, tv_I a3] D (F_X11_row a1 a2 a3 D) := by
  refine td_meetL (ls := [tv_R 1, tv_I a1, tv_I a2, tv_I a3]) rfl (Nat.le_of_ble_eq_true rfl) rfl ?_
  unfold F_X11_row
  refine ts_iload_n (i := 1) rfl rfl dX11_row_0 ?_
  refine tq_callS (y2 := mX11_isShelf) [tv_I a1] [] (st' := fun r1 => [tv_I r1]) tw_X11_isShelf tx_X11_isShelf tl_X11_131 rfl rfl rfl rfl (fun _ => rfl) dX11_row_1 (S_X11_isShelf l hE _ a1 D) (fun r1 D2 => ?_)
  refine td_if_eq (tgt := 22) rfl dX11_row_4 ?_ ?_
  · refine ts_iconst rfl dX11_row_22 ?_
    exact td_iret rfl dX11_row_23
  · refine ts_iload_n (i := 2) rfl rfl dX11_row_7 ?_
    refine td_if_lt (tgt := 22) rfl dX11_row_8 ?_ ?_
    · refine ts_iconst rfl dX11_row_22 ?_
      exact td_iret rfl dX11_row_23
    · refine ts_iload_n (i := 2) rfl rfl dX11_row_11 ?_
      refine ts_iconst rfl dX11_row_12 ?_
      refine td_icmp_gt (tgt := 22) rfl dX11_row_13 ?_ ?_
      · refine ts_iconst rfl dX11_row_22 ?_
        exact td_iret rfl dX11_row_23
      · refine ts_iload_n (i := 3) rfl rfl dX11_row_16 ?_
        refine ts_bipush rfl dX11_row_17 ?_
        refine td_icmp_le (tgt := 24) rfl dX11_row_19 ?_ ?_
        · refine ts_iload_n (i := 3) rfl rfl dX11_row_24 ?_
          refine td_if_ge (tgt := 31) rfl dX11_row_25 ?_ ?_
          · refine ts_aload_n (i := 0) rfl rfl dX11_row_31 ?_
            refine td_getR (q := 46) tl_X11_94 rfl ga_c_1 rfl dX11_row_32 ?_
            refine ts_iload_n (i := 1) rfl rfl dX11_row_35 ?_
            refine td_guard (fun h3 => ?_)
            refine td_aaldK ga_c_46 (by decide) h3 dX11_row_36 ?_
            refine ts_iload_n (i := 2) rfl rfl dX11_row_37 ?_
            refine ts_iload_n (i := 3) rfl rfl dX11_row_38 ?_
            refine tq_callV (y2 := mX6_clear) [tv_I a2, tv_I a3] [] (td_r g_c 46 (Int.toNat a1)) (st' := fun _ => []) tw_X6_clear tx_X6_clear tw_c6 (is_shelf_of h3).1 tl_X11_390 rfl rfl rfl rfl (fun _ => rfl) dX11_row_39 (S_X6_clear l hE _ (td_r g_c 46 (Int.toNat a1)) a2 a3 (is_shelf_of h3) D2) (fun r4 D5 => ?_)
            refine ts_iconst rfl dX11_row_42 ?_
            exact td_iret rfl dX11_row_43
          · refine ts_bipush rfl dX11_row_28 ?_
            exact td_iret rfl dX11_row_30
        · refine ts_iconst rfl dX11_row_22 ?_
          exact td_iret rfl dX11_row_23
def F_X11_rowRefusal (p0 : Nat) (D : td_D) : Option (Int × td_D) :=
  if D p0 0 = (-1) then
    some ((-11), D)
  else
    if D p0 0 = 5 then
      some ((-12), D)
    else
      some (0, D)
set_option maxHeartbeats 4000000 in
set_option maxRecDepth 20000 in
theorem S_X11_rowRefusal (l : Launch) {E : tv_E} (hE : tv_hE E) (d : Nat) (p0 : Nat) (hp0 : tv_isShelf p0) (D : td_D) : td_msim l E (d + 0) mX11_rowRefusal g_c [tv_R p0] D (F_X11_rowRefusal p0 D) := by
  refine td_meetL (ls := [tv_R p0]) rfl (Nat.le_of_ble_eq_true rfl) rfl ?_
  unfold F_X11_rowRefusal
  refine ts_aload_n (i := 0) rfl rfl dX11_rowRefusal_0 ?_
  refine td_getI tl_X11_134 rfl hp0.1 hp0.2.2.1 dX11_rowRefusal_1 ?_
  refine ts_iconst rfl dX11_rowRefusal_4 ?_
  refine td_icmp_ne (tgt := 11) rfl dX11_rowRefusal_5 ?_ ?_
  · refine ts_bipush rfl dX11_rowRefusal_8 ?_
    exact td_iret rfl dX11_rowRefusal_10
  · refine ts_aload_n (i := 0) rfl rfl dX11_rowRefusal_11 ?_
    refine td_getI tl_X11_134 rfl hp0.1 hp0.2.2.1 dX11_rowRefusal_12 ?_
    refine ts_iconst rfl dX11_rowRefusal_15 ?_
    refine td_icmp_ne (tgt := 24) rfl dX11_rowRefusal_16 ?_ ?_
    · refine ts_bipush rfl dX11_rowRefusal_19 ?_
      refine ts_goto (tgt := 25) rfl dX11_rowRefusal_21 ?_
      exact td_iret rfl dX11_rowRefusal_25
    · refine ts_iconst rfl dX11_rowRefusal_24 ?_
      exact td_iret rfl dX11_rowRefusal_25
def F_X11_lowestBits (a0 : Int) (a1 : Int) (D : td_D) : Option (Int × td_D) :=
  if a0 = 0 then
    some (tv_i2b (tv_w a1), D)
  else if a0 = 1 then
    some (tv_i2s (tv_w a1), D)
  else if a0 = 2 then
    some (tv_w a1, D)
  else if a0 = 3 then
    some (a1, D)
  else if a0 = 4 then
    if tv_lcmp a1 0 = 0 then
      some (0, D)
    else
      some (1, D)
  else
    some (a1, D)
set_option maxHeartbeats 4000000 in
set_option maxRecDepth 20000 in
theorem S_X11_lowestBits (l : Launch) {E : tv_E} (hE : tv_hE E) (d : Nat) (a0 : Int) (a1 : Int) (D : td_D) : td_msim l E (d + 0) mX11_lowestBits g_c [tv_I a0, tv_J a1] D (F_X11_lowestBits a0 a1 D) := by
  refine td_meetL (ls := [tv_I a0, tv_J a1, tv_U]) rfl (Nat.le_of_ble_eq_true rfl) rfl ?_
  unfold F_X11_lowestBits
  refine ts_iload_n (i := 0) rfl rfl dX11_lowestBits_0 ?_
  refine td_ite (fun h1 => ?_) (fun h1 => ?_)
  · refine ts_tabIn (i := 0) (tgt := 36) (by omega) (by omega) rfl rfl dX11_lowestBits_1 ?_
    refine ts_lload_n (i := 1) rfl rfl dX11_lowestBits_36 ?_
    refine ts_l2i dX11_lowestBits_37 ?_
    refine ts_i2b dX11_lowestBits_38 ?_
    refine ts_i2l dX11_lowestBits_39 ?_
    exact td_lret rfl dX11_lowestBits_40
  refine td_ite (fun h2 => ?_) (fun h2 => ?_)
  · refine ts_tabIn (i := 1) (tgt := 41) (by omega) (by omega) rfl rfl dX11_lowestBits_1 ?_
    refine ts_lload_n (i := 1) rfl rfl dX11_lowestBits_41 ?_
    refine ts_l2i dX11_lowestBits_42 ?_
    refine ts_i2s dX11_lowestBits_43 ?_
    refine ts_i2l dX11_lowestBits_44 ?_
    exact td_lret rfl dX11_lowestBits_45
  refine td_ite (fun h3 => ?_) (fun h3 => ?_)
  · refine ts_tabIn (i := 2) (tgt := 46) (by omega) (by omega) rfl rfl dX11_lowestBits_1 ?_
    refine ts_lload_n (i := 1) rfl rfl dX11_lowestBits_46 ?_
    refine ts_l2i dX11_lowestBits_47 ?_
    refine ts_i2l dX11_lowestBits_48 ?_
    exact td_lret rfl dX11_lowestBits_49
  refine td_ite (fun h4 => ?_) (fun h4 => ?_)
  · refine ts_tabIn (i := 3) (tgt := 62) (by omega) (by omega) rfl rfl dX11_lowestBits_1 ?_
    refine ts_lload_n (i := 1) rfl rfl dX11_lowestBits_62 ?_
    exact td_lret rfl dX11_lowestBits_63
  refine td_ite (fun h5 => ?_) (fun h5 => ?_)
  · refine ts_tabIn (i := 4) (tgt := 50) (by omega) (by omega) rfl rfl dX11_lowestBits_1 ?_
    refine ts_lload_n (i := 1) rfl rfl dX11_lowestBits_50 ?_
    refine ts_lconst dX11_lowestBits_51 ?_
    refine ts_lcmp dX11_lowestBits_52 ?_
    refine td_if_eq (tgt := 60) rfl dX11_lowestBits_53 ?_ ?_
    · refine ts_lconst dX11_lowestBits_60 ?_
      exact td_lret rfl dX11_lowestBits_61
    · refine ts_lconst dX11_lowestBits_56 ?_
      refine ts_goto (tgt := 61) rfl dX11_lowestBits_57 ?_
      exact td_lret rfl dX11_lowestBits_61
  refine ts_tabOut (tgt := 62) (by omega) rfl dX11_lowestBits_1 ?_
  refine ts_lload_n (i := 1) rfl rfl dX11_lowestBits_62 ?_
  exact td_lret rfl dX11_lowestBits_63
def F_X11_put (a1 : Int) (a2 : Int) (a3 : Int) (D : td_D) : Option (Int × td_D) :=
  td_b (F_X11_isShelf a1 D) fun r1 D2 =>
  if r1 = 0 then
    some ((-1), D2)
  else
    if 0 ≤ a1 ∧ a1 < ((6 : Nat) : Int) then
      td_b (F_X11_rowRefusal (td_r g_c 46 (Int.toNat a1)) D2) fun r4 D5 =>
      if r4 = 0 then
        td_b (F_X6_has (td_r g_c 46 (Int.toNat a1)) a2 D5) fun r6 D7 =>
        if r6 = 0 then
          some ((-13), D7)
        else
          td_b (F_X11_lowestBits (D7 (td_r g_c 46 (Int.toNat a1)) 0) a3 D7) fun r8 D9 =>
          if 0 ≤ a2 ∧ a2 < ((60 : Nat) : Int) then
            td_l (td_upd D9 (td_r g_c (td_r g_c 46 (Int.toNat a1)) 3) (Int.toNat a2) r8) fun D11 =>
            some (1, D11)
          else none
      else
        some (r4, D5)
    else none
set_option maxHeartbeats 4000000 in
set_option maxRecDepth 20000 in
theorem S_X11_put (l : Launch) {E : tv_E} (hE : tv_hE E) (d : Nat) (a1 : Int) (a2 : Int) (a3 : Int) (D : td_D) : td_msim l E (d + 1) mX11_put g_c [tv_R 1, tv_I a1, tv_I a2, tv_J a3] D (F_X11_put a1 a2 a3 D) := by
  refine td_meetL (ls := [tv_R 1, tv_I a1, tv_I a2, tv_J a3, tv_U, tv_U, tv_U]) rfl (Nat.le_of_ble_eq_true rfl) rfl ?_
  unfold F_X11_put
  refine ts_iload_n (i := 1) rfl rfl dX11_put_0 ?_
  refine tq_callS (y2 := mX11_isShelf) [tv_I a1] [] (st' := fun r1 => [tv_I r1]) tw_X11_isShelf tx_X11_isShelf tl_X11_131 rfl rfl rfl rfl (fun _ => rfl) dX11_put_1 (S_X11_isShelf l hE _ a1 D) (fun r1 D2 => ?_)
  refine td_if_ne (tgt := 9) rfl dX11_put_4 ?_ ?_
  · refine ts_iconst rfl dX11_put_7 ?_
    exact td_iret rfl dX11_put_8
  · refine ts_aload_n (i := 0) rfl rfl dX11_put_9 ?_
    refine td_getR (q := 46) tl_X11_94 rfl ga_c_1 rfl dX11_put_10 ?_
    refine ts_iload_n (i := 1) rfl rfl dX11_put_13 ?_
    refine td_guard (fun h3 => ?_)
    refine td_aaldK ga_c_46 (by decide) h3 dX11_put_14 ?_
    refine tq_astore [tv_R 1, tv_I a1, tv_I a2, tv_J a3, tv_U, tv_R (td_r g_c 46 (Int.toNat a1)), tv_U] (Nat.le_of_ble_eq_true rfl) rfl (shelf_pos (is_shelf_of h3)) rfl dX11_put_15 ?_
    refine ts_aload rfl dX11_put_17 ?_
    refine tq_callS (y2 := mX11_rowRefusal) [tv_R (td_r g_c 46 (Int.toNat a1))] [] (st' := fun r4 => [tv_I r4]) tw_X11_rowRefusal tx_X11_rowRefusal tl_X11_394 rfl rfl rfl rfl (fun _ => rfl) dX11_put_19 (S_X11_rowRefusal l hE _ (td_r g_c 46 (Int.toNat a1)) (is_shelf_of h3) D2) (fun r4 D5 => ?_)
    refine tq_istore [tv_R 1, tv_I a1, tv_I a2, tv_J a3, tv_U, tv_R (td_r g_c 46 (Int.toNat a1)), tv_I r4] (Nat.le_of_ble_eq_true rfl) rfl rfl dX11_put_22 ?_
    refine ts_iload rfl dX11_put_24 ?_
    refine td_if_eq (tgt := 32) rfl dX11_put_26 ?_ ?_
    · refine ts_aload rfl dX11_put_32 ?_
      refine ts_iload_n (i := 2) rfl rfl dX11_put_34 ?_
      refine tq_callV (y2 := mX6_has) [tv_I a2] [] (td_r g_c 46 (Int.toNat a1)) (st' := fun r6 => [tv_I r6]) tw_X6_has tx_X6_has tw_c6 (is_shelf_of h3).1 tl_X11_398 rfl rfl rfl rfl (fun _ => rfl) dX11_put_35 (S_X6_has l hE _ (td_r g_c 46 (Int.toNat a1)) a2 (is_shelf_of h3) D5) (fun r6 D7 => ?_)
      refine td_if_ne (tgt := 44) rfl dX11_put_38 ?_ ?_
      · refine ts_bipush rfl dX11_put_41 ?_
        exact td_iret rfl dX11_put_43
      · refine ts_aload rfl dX11_put_44 ?_
        refine td_getR (q := td_r g_c (td_r g_c 46 (Int.toNat a1)) 3) tl_X11_401 rfl (is_shelf_of h3).1 (is_shelf_of h3).2.1.1 dX11_put_46 ?_
        refine ts_iload_n (i := 2) rfl rfl dX11_put_49 ?_
        refine ts_aload rfl dX11_put_50 ?_
        refine td_getI tl_X11_134 rfl (is_shelf_of h3).1 (is_shelf_of h3).2.2.1 dX11_put_52 ?_
        refine ts_lload_n (i := 3) rfl rfl dX11_put_55 ?_
        refine tq_callS (y2 := mX11_lowestBits) [tv_I (D7 (td_r g_c 46 (Int.toNat a1)) 0), tv_J a3] [tv_I a2, tv_R (td_r g_c (td_r g_c 46 (Int.toNat a1)) 3)] (st' := fun r8 => [tv_J r8, tv_I a2, tv_R (td_r g_c (td_r g_c 46 (Int.toNat a1)) 3)]) tw_X11_lowestBits tx_X11_lowestBits tl_X11_405 rfl rfl rfl rfl (fun _ => rfl) dX11_put_56 (S_X11_lowestBits l hE _ (D7 (td_r g_c 46 (Int.toNat a1)) 0) a3 D7) (fun r8 D9 => ?_)
        refine td_guard (fun h10 => ?_)
        refine td_lastK (is_shelf_of h3).2.1.2.1 ((is_shelf_of h3).2.1.2.2 _) h10 dX11_put_59 ?_
        refine td_let (fun D11 => ?_)
        refine ts_iconst rfl dX11_put_60 ?_
        exact td_iret rfl dX11_put_61
    · refine ts_iload rfl dX11_put_29 ?_
      exact td_iret rfl dX11_put_31
def F_X11_element (a1 : Int) (a2 : Int) (D : td_D) : Option (Int × td_D) :=
  td_b (F_X11_isShelf a1 D) fun r1 D2 =>
  if r1 = 0 then
    some ((-9223372036854775808), D2)
  else
    if 0 ≤ a1 ∧ a1 < ((6 : Nat) : Int) then
      td_b (F_X11_rowRefusal (td_r g_c 46 (Int.toNat a1)) D2) fun r4 D5 =>
      if r4 = 0 then
        td_b (F_X6_has (td_r g_c 46 (Int.toNat a1)) a2 D5) fun r6 D7 =>
        if r6 = 0 then
          some ((-9223372036854775808), D7)
        else
          if 0 ≤ a2 ∧ a2 < ((60 : Nat) : Int) then
            some (D7 (td_r g_c (td_r g_c 46 (Int.toNat a1)) 3) (Int.toNat a2), D7)
          else none
      else
        some ((-9223372036854775808), D5)
    else none
set_option maxHeartbeats 4000000 in
set_option maxRecDepth 20000 in
theorem S_X11_element (l : Launch) {E : tv_E} (hE : tv_hE E) (d : Nat) (a1 : Int) (a2 : Int) (D : td_D) : td_msim l E (d + 1) mX11_element g_c [tv_R 1, tv_I a1, tv_I a2] D (F_X11_element a1 a2 D) := by
  refine td_meetL (ls := [tv_R 1, tv_I a1, tv_I a2]) rfl (Nat.le_of_ble_eq_true rfl) rfl ?_
  unfold F_X11_element
  refine ts_iload_n (i := 1) rfl rfl dX11_element_0 ?_
  refine tq_callS (y2 := mX11_isShelf) [tv_I a1] [] (st' := fun r1 => [tv_I r1]) tw_X11_isShelf tx_X11_isShelf tl_X11_131 rfl rfl rfl rfl (fun _ => rfl) dX11_element_1 (S_X11_isShelf l hE _ a1 D) (fun r1 D2 => ?_)
  refine td_if_eq (tgt := 32) rfl dX11_element_4 ?_ ?_
  · refine ts_ldc2 (by unfold tv_inl; decide) tl_X11_409 dX11_element_32 ?_
    exact td_lret rfl dX11_element_35
  · refine ts_aload_n (i := 0) rfl rfl dX11_element_7 ?_
    refine td_getR (q := 46) tl_X11_94 rfl ga_c_1 rfl dX11_element_8 ?_
    refine ts_iload_n (i := 1) rfl rfl dX11_element_11 ?_
    refine td_guard (fun h3 => ?_)
    refine td_aaldK ga_c_46 (by decide) h3 dX11_element_12 ?_
    refine tq_callS (y2 := mX11_rowRefusal) [tv_R (td_r g_c 46 (Int.toNat a1))] [] (st' := fun r4 => [tv_I r4]) tw_X11_rowRefusal tx_X11_rowRefusal tl_X11_394 rfl rfl rfl rfl (fun _ => rfl) dX11_element_13 (S_X11_rowRefusal l hE _ (td_r g_c 46 (Int.toNat a1)) (is_shelf_of h3) D2) (fun r4 D5 => ?_)
    refine td_if_ne (tgt := 32) rfl dX11_element_16 ?_ ?_
    · refine ts_aload_n (i := 0) rfl rfl dX11_element_19 ?_
      refine td_getR (q := 46) tl_X11_94 rfl ga_c_1 rfl dX11_element_20 ?_
      refine ts_iload_n (i := 1) rfl rfl dX11_element_23 ?_
      refine td_aaldK ga_c_46 (by decide) h3 dX11_element_24 ?_
      refine ts_iload_n (i := 2) rfl rfl dX11_element_25 ?_
      refine tq_callV (y2 := mX6_has) [tv_I a2] [] (td_r g_c 46 (Int.toNat a1)) (st' := fun r6 => [tv_I r6]) tw_X6_has tx_X6_has tw_c6 (is_shelf_of h3).1 tl_X11_398 rfl rfl rfl rfl (fun _ => rfl) dX11_element_26 (S_X6_has l hE _ (td_r g_c 46 (Int.toNat a1)) a2 (is_shelf_of h3) D5) (fun r6 D7 => ?_)
      refine td_if_ne (tgt := 36) rfl dX11_element_29 ?_ ?_
      · refine ts_ldc2 (by unfold tv_inl; decide) tl_X11_409 dX11_element_32 ?_
        exact td_lret rfl dX11_element_35
      · refine ts_aload_n (i := 0) rfl rfl dX11_element_36 ?_
        refine td_getR (q := 46) tl_X11_94 rfl ga_c_1 rfl dX11_element_37 ?_
        refine ts_iload_n (i := 1) rfl rfl dX11_element_40 ?_
        refine td_aaldK ga_c_46 (by decide) h3 dX11_element_41 ?_
        refine td_getR (q := td_r g_c (td_r g_c 46 (Int.toNat a1)) 3) tl_X11_401 rfl (is_shelf_of h3).1 (is_shelf_of h3).2.1.1 dX11_element_42 ?_
        refine ts_iload_n (i := 2) rfl rfl dX11_element_45 ?_
        refine td_guard (fun h8 => ?_)
        refine td_laldK (is_shelf_of h3).2.1.2.1 ((is_shelf_of h3).2.1.2.2 _) h8 dX11_element_46 ?_
        exact td_lret rfl dX11_element_47
    · refine ts_ldc2 (by unfold tv_inl; decide) tl_X11_409 dX11_element_32 ?_
      exact td_lret rfl dX11_element_35
def F_X11_shift (a1 : Int) (a2 : Int) (a3 : Int) (a4 : Int) (a5 : Int) (D : td_D) : Option (Int × td_D) :=
  td_b (F_X11_isShelf a1 D) fun r1 D2 =>
  if r1 = 0 then
    some ((-1), D2)
  else
    td_b (F_X11_isShelf a3 D2) fun r3 D4 =>
    if r3 = 0 then
      some ((-1), D4)
    else
      if 0 ≤ a1 ∧ a1 < ((6 : Nat) : Int) then
        if 0 ≤ a3 ∧ a3 < ((6 : Nat) : Int) then
          if D4 (td_r g_c 46 (Int.toNat a1)) 0 = (-1) then
            some ((-11), D4)
          else
            if D4 (td_r g_c 46 (Int.toNat a3)) 0 = (-1) then
              some ((-11), D4)
            else
              if D4 (td_r g_c 46 (Int.toNat a1)) 0 = 5 then
                some ((-12), D4)
              else
                if D4 (td_r g_c 46 (Int.toNat a1)) 0 = D4 (td_r g_c 46 (Int.toNat a3)) 0 then
                  if a5 < 0 then
                    some ((-13), D4)
                  else
                    if a2 < 0 then
                      some ((-13), D4)
                    else
                      if a4 < 0 then
                        some ((-13), D4)
                      else
                        if tv_w ((D4 (td_r g_c 46 (Int.toNat a1)) 2) - a2) < a5 then
                          some ((-13), D4)
                        else
                          if a5 ≤ tv_w ((D4 (td_r g_c 46 (Int.toNat a3)) 2) - a4) then
                            if (0 : Int) ≤ a2 ∧ (0 : Int) ≤ a4 ∧ (0 : Int) ≤ a5 ∧ a2 + a5 ≤ ((60 : Nat) : Int) ∧ a4 + a5 ≤ ((60 : Nat) : Int) then
                              td_l (td_cpy D4 (td_r g_c (td_r g_c 46 (Int.toNat a1)) 3) (Int.toNat a2) (td_r g_c (td_r g_c 46 (Int.toNat a3)) 3) (Int.toNat a4) (Int.toNat a5)) fun D8 =>
                              some (a5, D8)
                            else none
                          else
                            some ((-13), D4)
                else
                  some ((-12), D4)
        else none
      else none
set_option maxHeartbeats 4000000 in
set_option maxRecDepth 20000 in
theorem S_X11_shift (l : Launch) {E : tv_E} (hE : tv_hE E) (d : Nat) (a1 : Int) (a2 : Int) (a3 : Int) (a4 : Int) (a5 : Int) (D : td_D) : td_msim l E (d + 1) mX11_shift g_c [tv_R 1, tv_I a1, tv_I a2, tv_I a3, tv_I a4, tv_I a5] D (F_X11_shift a1 a2 a3 a4 a5 D) := by
  refine td_meetL (ls := [tv_R 1, tv_I a1, tv_I a2, tv_I a3, tv_I a4, tv_I a5, tv_U, tv_U]) rfl (Nat.le_of_ble_eq_true rfl) rfl ?_
  unfold F_X11_shift
  refine ts_iload_n (i := 1) rfl rfl dX11_shift_0 ?_
  refine tq_callS (y2 := mX11_isShelf) [tv_I a1] [] (st' := fun r1 => [tv_I r1]) tw_X11_isShelf tx_X11_isShelf tl_X11_131 rfl rfl rfl rfl (fun _ => rfl) dX11_shift_1 (S_X11_isShelf l hE _ a1 D) (fun r1 D2 => ?_)
  refine td_if_eq (tgt := 14) rfl dX11_shift_4 ?_ ?_
  · refine ts_iconst rfl dX11_shift_14 ?_
    exact td_iret rfl dX11_shift_15
  · refine ts_iload_n (i := 3) rfl rfl dX11_shift_7 ?_
    refine tq_callS (y2 := mX11_isShelf) [tv_I a3] [] (st' := fun r3 => [tv_I r3]) tw_X11_isShelf tx_X11_isShelf tl_X11_131 rfl rfl rfl rfl (fun _ => rfl) dX11_shift_8 (S_X11_isShelf l hE _ a3 D2) (fun r3 D4 => ?_)
    refine td_if_ne (tgt := 16) rfl dX11_shift_11 ?_ ?_
    · refine ts_iconst rfl dX11_shift_14 ?_
      exact td_iret rfl dX11_shift_15
    · refine ts_aload_n (i := 0) rfl rfl dX11_shift_16 ?_
      refine td_getR (q := 46) tl_X11_94 rfl ga_c_1 rfl dX11_shift_17 ?_
      refine ts_iload_n (i := 1) rfl rfl dX11_shift_20 ?_
      refine td_guard (fun h5 => ?_)
      refine td_aaldK ga_c_46 (by decide) h5 dX11_shift_21 ?_
      refine tq_astore [tv_R 1, tv_I a1, tv_I a2, tv_I a3, tv_I a4, tv_I a5, tv_R (td_r g_c 46 (Int.toNat a1)), tv_U] (Nat.le_of_ble_eq_true rfl) rfl (shelf_pos (is_shelf_of h5)) rfl dX11_shift_22 ?_
      refine ts_aload_n (i := 0) rfl rfl dX11_shift_24 ?_
      refine td_getR (q := 46) tl_X11_94 rfl ga_c_1 rfl dX11_shift_25 ?_
      refine ts_iload_n (i := 3) rfl rfl dX11_shift_28 ?_
      refine td_guard (fun h6 => ?_)
      refine td_aaldK ga_c_46 (by decide) h6 dX11_shift_29 ?_
      refine tq_astore [tv_R 1, tv_I a1, tv_I a2, tv_I a3, tv_I a4, tv_I a5, tv_R (td_r g_c 46 (Int.toNat a1)), tv_R (td_r g_c 46 (Int.toNat a3))] (Nat.le_of_ble_eq_true rfl) rfl (shelf_pos (is_shelf_of h6)) rfl dX11_shift_30 ?_
      refine ts_aload rfl dX11_shift_32 ?_
      refine td_getI tl_X11_134 rfl (is_shelf_of h5).1 (is_shelf_of h5).2.2.1 dX11_shift_34 ?_
      refine ts_iconst rfl dX11_shift_37 ?_
      refine td_icmp_eq (tgt := 50) rfl dX11_shift_38 ?_ ?_
      · refine ts_bipush rfl dX11_shift_50 ?_
        exact td_iret rfl dX11_shift_52
      · refine ts_aload rfl dX11_shift_41 ?_
        refine td_getI tl_X11_134 rfl (is_shelf_of h6).1 (is_shelf_of h6).2.2.1 dX11_shift_43 ?_
        refine ts_iconst rfl dX11_shift_46 ?_
        refine td_icmp_ne (tgt := 53) rfl dX11_shift_47 ?_ ?_
        · refine ts_bipush rfl dX11_shift_50 ?_
          exact td_iret rfl dX11_shift_52
        · refine ts_aload rfl dX11_shift_53 ?_
          refine td_getI tl_X11_134 rfl (is_shelf_of h5).1 (is_shelf_of h5).2.2.1 dX11_shift_55 ?_
          refine ts_iconst rfl dX11_shift_58 ?_
          refine td_icmp_eq (tgt := 75) rfl dX11_shift_59 ?_ ?_
          · refine ts_bipush rfl dX11_shift_75 ?_
            exact td_iret rfl dX11_shift_77
          · refine ts_aload rfl dX11_shift_62 ?_
            refine td_getI tl_X11_134 rfl (is_shelf_of h5).1 (is_shelf_of h5).2.2.1 dX11_shift_64 ?_
            refine ts_aload rfl dX11_shift_67 ?_
            refine td_getI tl_X11_134 rfl (is_shelf_of h6).1 (is_shelf_of h6).2.2.1 dX11_shift_69 ?_
            refine td_icmp_eq (tgt := 78) rfl dX11_shift_72 ?_ ?_
            · refine ts_iload rfl dX11_shift_78 ?_
              refine td_if_lt (tgt := 117) rfl dX11_shift_80 ?_ ?_
              · refine ts_bipush rfl dX11_shift_117 ?_
                exact td_iret rfl dX11_shift_119
              · refine ts_iload_n (i := 2) rfl rfl dX11_shift_83 ?_
                refine td_if_lt (tgt := 117) rfl dX11_shift_84 ?_ ?_
                · refine ts_bipush rfl dX11_shift_117 ?_
                  exact td_iret rfl dX11_shift_119
                · refine ts_iload rfl dX11_shift_87 ?_
                  refine td_if_lt (tgt := 117) rfl dX11_shift_89 ?_ ?_
                  · refine ts_bipush rfl dX11_shift_117 ?_
                    exact td_iret rfl dX11_shift_119
                  · refine ts_iload rfl dX11_shift_92 ?_
                    refine ts_aload rfl dX11_shift_94 ?_
                    refine td_getI tl_X11_320 rfl (is_shelf_of h5).1 (is_shelf_of h5).2.2.2.2 dX11_shift_96 ?_
                    refine ts_iload_n (i := 2) rfl rfl dX11_shift_99 ?_
                    refine ts_isub dX11_shift_100 ?_
                    refine td_icmp_gt (tgt := 117) rfl dX11_shift_101 ?_ ?_
                    · refine ts_bipush rfl dX11_shift_117 ?_
                      exact td_iret rfl dX11_shift_119
                    · refine ts_iload rfl dX11_shift_104 ?_
                      refine ts_aload rfl dX11_shift_106 ?_
                      refine td_getI tl_X11_320 rfl (is_shelf_of h6).1 (is_shelf_of h6).2.2.2.2 dX11_shift_108 ?_
                      refine ts_iload rfl dX11_shift_111 ?_
                      refine ts_isub dX11_shift_113 ?_
                      refine td_icmp_le (tgt := 120) rfl dX11_shift_114 ?_ ?_
                      · refine ts_aload rfl dX11_shift_120 ?_
                        refine td_getR (q := td_r g_c (td_r g_c 46 (Int.toNat a1)) 3) tl_X11_401 rfl (is_shelf_of h5).1 (is_shelf_of h5).2.1.1 dX11_shift_122 ?_
                        refine ts_iload_n (i := 2) rfl rfl dX11_shift_125 ?_
                        refine ts_aload rfl dX11_shift_126 ?_
                        refine td_getR (q := td_r g_c (td_r g_c 46 (Int.toNat a3)) 3) tl_X11_401 rfl (is_shelf_of h6).1 (is_shelf_of h6).2.1.1 dX11_shift_128 ?_
                        refine ts_iload rfl dX11_shift_131 ?_
                        refine ts_iload rfl dX11_shift_133 ?_
                        refine td_cpyl (y := mX11_shift) (st := []) (ls := [tv_R 1, tv_I a1, tv_I a2, tv_I a3, tv_I a4, tv_I a5, tv_R (td_r g_c 46 (Int.toNat a1)), tv_R (td_r g_c 46 (Int.toNat a3))]) hE.1 rfl (is_shelf_of h5).2.1.2.1 (is_shelf_of h6).2.1.2.1 (is_shelf_of h5).2.1.2.2 (is_shelf_of h6).2.1.2.2 tl_X11_411 (tv_st8 rfl) dX11_shift_135 ?_
                        refine td_let (fun D8 => ?_)
                        refine ts_iload rfl dX11_shift_138 ?_
                        exact td_iret rfl dX11_shift_140
                      · refine ts_bipush rfl dX11_shift_117 ?_
                        exact td_iret rfl dX11_shift_119
            · refine ts_bipush rfl dX11_shift_75 ?_
              exact td_iret rfl dX11_shift_77
def F_X11_isUnder_4 : Nat → Int → Int → Int → td_D → Option (Int × td_D)
  | 0, _, _, _, _ => none
  | n + 1, v1, v2, v3, D =>
    if 8 ≤ v3 then
      some (0, D)
    else
      td_b (F_X11_isKind v2 D) fun r1 D2 =>
      if r1 = 0 then
        some (0, D2)
      else
        if v2 = v1 then
          some (1, D2)
        else
          if 0 ≤ v2 ∧ v2 < ((8 : Nat) : Int) then
            F_X11_isUnder_4 n v1 (tv_kab (Int.toNat v2)) (tv_w (v3 + 1)) D2
          else none
set_option maxHeartbeats 4000000 in
set_option maxRecDepth 20000 in
theorem S_X11_isUnder_4 {l : Launch} {E : tv_E} (hE : tv_hE E) (d : Nat) : ∀ (n : Nat) (v1 : Int) (v2 : Int) (v3 : Int) (D : td_D), td_sim l E (d + 1) mX11_isUnder g_c 4 [tv_U, tv_I v1, tv_I v2, tv_I v3] [] D (F_X11_isUnder_4 n v1 v2 v3 D) := by
  intro n
  induction n with
  | zero => intros; exact tv_none
  | succ n ih =>
    intro v1 v2 v3 D
    show td_sim _ _ _ _ _ _ _ _ _ (F_X11_isUnder_4 (n + 1) v1 v2 v3 D)
    unfold F_X11_isUnder_4
    refine ts_iload_n (i := 3) rfl rfl dX11_isUnder_4 ?_
    refine ts_bipush rfl dX11_isUnder_5 ?_
    refine td_icmp_ge (tgt := 36) rfl dX11_isUnder_7 ?_ ?_
    · refine ts_iconst rfl dX11_isUnder_36 ?_
      exact td_zretK (Or.inl rfl) rfl dX11_isUnder_37
    · refine ts_iload_n (i := 2) rfl rfl dX11_isUnder_10 ?_
      refine tq_callS (y2 := mX11_isKind) [tv_I v2] [] (st' := fun r1 => [tv_I r1]) tw_X11_isKind tx_X11_isKind tl_X11_370 rfl rfl rfl rfl (fun _ => rfl) dX11_isUnder_11 (S_X11_isKind l hE _ v2 D) (fun r1 D2 => ?_)
      refine td_if_eq (tgt := 36) rfl dX11_isUnder_14 ?_ ?_
      · refine ts_iconst rfl dX11_isUnder_36 ?_
        exact td_zretK (Or.inl rfl) rfl dX11_isUnder_37
      · refine ts_iload_n (i := 2) rfl rfl dX11_isUnder_17 ?_
        refine ts_iload_n (i := 1) rfl rfl dX11_isUnder_18 ?_
        refine td_icmp_ne (tgt := 24) rfl dX11_isUnder_19 ?_ ?_
        · refine ts_iconst rfl dX11_isUnder_22 ?_
          exact td_zretK (Or.inr rfl) rfl dX11_isUnder_23
        · refine ts_gets (q := 1) (Or.inr ⟨rfl, rfl⟩) tl_X11_423 dX11_isUnder_24 ?_
          refine ts_iload_n (i := 2) rfl rfl dX11_isUnder_27 ?_
          refine td_sald0 (q := 1) (n := 8) (f := tv_kab) (by decide) hE.2.2 dX11_isUnder_28 tv_kab_in ?_
          refine tq_istore_n [tv_U, tv_I v1, tv_I (tv_kab (Int.toNat v2)), tv_I v3] rfl (Nat.le_of_ble_eq_true rfl) rfl rfl dX11_isUnder_29 ?_
          refine tq_iinc [tv_U, tv_I v1, tv_I (tv_kab (Int.toNat v2)), tv_I (tv_w (v3 + 1))] rfl rfl rfl dX11_isUnder_30 ?_
          refine ts_goto (tgt := 4) rfl dX11_isUnder_33 ?_
          exact ih v1 (tv_kab (Int.toNat v2)) (tv_w (v3 + 1)) D2
def F_X11_isUnder (a0 : Int) (a1 : Int) (D : td_D) : Option (Int × td_D) :=
  F_X11_isUnder_4 tf_N a1 a0 0 D
set_option maxHeartbeats 4000000 in
set_option maxRecDepth 20000 in
theorem S_X11_isUnder (l : Launch) {E : tv_E} (hE : tv_hE E) (d : Nat) (a0 : Int) (a1 : Int) (D : td_D) : td_msim l E (d + 1) mX11_isUnder g_c [tv_I a0, tv_I a1] D (F_X11_isUnder a0 a1 D) := by
  refine td_meetL (ls := [tv_I a0, tv_I a1, tv_U, tv_U]) rfl (Nat.le_of_ble_eq_true rfl) rfl ?_
  unfold F_X11_isUnder
  refine ts_iload_n (i := 0) rfl rfl dX11_isUnder_0 ?_
  refine tq_istore_n [tv_I a0, tv_I a1, tv_I a0, tv_U] rfl (Nat.le_of_ble_eq_true rfl) rfl rfl dX11_isUnder_1 ?_
  refine ts_iconst rfl dX11_isUnder_2 ?_
  refine tq_istore_n [tv_I a0, tv_I a1, tv_I a0, tv_I 0] rfl (Nat.le_of_ble_eq_true rfl) rfl rfl dX11_isUnder_3 ?_
  refine tv_weak (ls' := [tv_U, tv_I a1, tv_I a0, tv_I 0]) ⟨Or.inl rfl, Or.inr rfl, Or.inr rfl, Or.inr rfl, trivial⟩ ?_
  exact S_X11_isUnder_4 hE d tf_N a1 a0 0 D
def F_X11_taken (a1 : Int) (a2 : Int) (D : td_D) : Option (Int × td_D) :=
  td_b (F_X11_isShelf a1 D) fun r1 D2 =>
  if r1 = 0 then
    some ((-1), D2)
  else
    td_b (F_X11_isKind a2 D2) fun r3 D4 =>
    if r3 = 0 then
      some ((-1), D4)
    else
      if 0 ≤ a1 ∧ a1 < ((6 : Nat) : Int) then
        td_b (F_X11_refusal (td_r g_c 46 (Int.toNat a1)) 5 D4) fun r6 D7 =>
        if r6 = 0 then
          td_b (F_X8_isBody (D7 (td_r g_c 46 (Int.toNat a1)) 1) D7) fun r8 D9 =>
          if r8 = 0 then
            some ((-12), D9)
          else
            if 0 ≤ D7 (td_r g_c 46 (Int.toNat a1)) 1 ∧ D7 (td_r g_c 46 (Int.toNat a1)) 1 < ((50 : Nat) : Int) then
              td_b (F_X11_isUnder (D9 44 (Int.toNat (D7 (td_r g_c 46 (Int.toNat a1)) 1))) a2 D9) fun r11 D12 =>
              if r11 = 0 then
                some ((-12), D12)
              else
                some (D12 44 (Int.toNat (D7 (td_r g_c 46 (Int.toNat a1)) 1)), D12)
            else none
        else
          some (r6, D7)
      else none
set_option maxHeartbeats 4000000 in
set_option maxRecDepth 20000 in
theorem S_X11_taken (l : Launch) {E : tv_E} (hE : tv_hE E) (d : Nat) (a1 : Int) (a2 : Int) (D : td_D) : td_msim l E (d + 2) mX11_taken g_c [tv_R 1, tv_I a1, tv_I a2] D (F_X11_taken a1 a2 D) := by
  refine td_meetL (ls := [tv_R 1, tv_I a1, tv_I a2, tv_U, tv_U]) rfl (Nat.le_of_ble_eq_true rfl) rfl ?_
  unfold F_X11_taken
  refine ts_iload_n (i := 1) rfl rfl dX11_taken_0 ?_
  refine tq_callS (y2 := mX11_isShelf) [tv_I a1] [] (st' := fun r1 => [tv_I r1]) tw_X11_isShelf tx_X11_isShelf tl_X11_131 rfl rfl rfl rfl (fun _ => rfl) dX11_taken_1 (S_X11_isShelf l hE _ a1 D) (fun r1 D2 => ?_)
  refine td_if_eq (tgt := 14) rfl dX11_taken_4 ?_ ?_
  · refine ts_iconst rfl dX11_taken_14 ?_
    exact td_iret rfl dX11_taken_15
  · refine ts_iload_n (i := 2) rfl rfl dX11_taken_7 ?_
    refine tq_callS (y2 := mX11_isKind) [tv_I a2] [] (st' := fun r3 => [tv_I r3]) tw_X11_isKind tx_X11_isKind tl_X11_370 rfl rfl rfl rfl (fun _ => rfl) dX11_taken_8 (S_X11_isKind l hE _ a2 D2) (fun r3 D4 => ?_)
    refine td_if_ne (tgt := 16) rfl dX11_taken_11 ?_ ?_
    · refine ts_iconst rfl dX11_taken_14 ?_
      exact td_iret rfl dX11_taken_15
    · refine ts_aload_n (i := 0) rfl rfl dX11_taken_16 ?_
      refine td_getR (q := 46) tl_X11_94 rfl ga_c_1 rfl dX11_taken_17 ?_
      refine ts_iload_n (i := 1) rfl rfl dX11_taken_20 ?_
      refine td_guard (fun h5 => ?_)
      refine td_aaldK ga_c_46 (by decide) h5 dX11_taken_21 ?_
      refine ts_iconst rfl dX11_taken_22 ?_
      refine tq_callS (y2 := mX11_refusal) [tv_R (td_r g_c 46 (Int.toNat a1)), tv_I 5] [] (st' := fun r6 => [tv_I r6]) tw_X11_refusal tx_X11_refusal tl_X11_240 rfl rfl rfl rfl (fun _ => rfl) dX11_taken_23 (S_X11_refusal l hE _ (td_r g_c 46 (Int.toNat a1)) 5 (is_shelf_of h5) D4) (fun r6 D7 => ?_)
      refine tq_istore_n [tv_R 1, tv_I a1, tv_I a2, tv_I r6, tv_U] rfl (Nat.le_of_ble_eq_true rfl) rfl rfl dX11_taken_26 ?_
      refine ts_iload_n (i := 3) rfl rfl dX11_taken_27 ?_
      refine td_if_eq (tgt := 33) rfl dX11_taken_28 ?_ ?_
      · refine ts_aload_n (i := 0) rfl rfl dX11_taken_33 ?_
        refine td_getR (q := 46) tl_X11_94 rfl ga_c_1 rfl dX11_taken_34 ?_
        refine ts_iload_n (i := 1) rfl rfl dX11_taken_37 ?_
        refine td_aaldK ga_c_46 (by decide) h5 dX11_taken_38 ?_
        refine td_getI tl_X11_387 rfl (is_shelf_of h5).1 (is_shelf_of h5).2.2.2.1 dX11_taken_39 ?_
        refine tq_istore [tv_R 1, tv_I a1, tv_I a2, tv_I r6, tv_I (D7 (td_r g_c 46 (Int.toNat a1)) 1)] (Nat.le_of_ble_eq_true rfl) rfl rfl dX11_taken_42 ?_
        refine ts_aload_n (i := 0) rfl rfl dX11_taken_44 ?_
        refine td_getR (q := 43) tl_X11_88 rfl ga_c_1 rfl dX11_taken_45 ?_
        refine ts_iload rfl dX11_taken_48 ?_
        refine tq_callV (y2 := mX8_isBody) [tv_I (D7 (td_r g_c 46 (Int.toNat a1)) 1)] [] 43 (st' := fun r8 => [tv_I r8]) tw_X8_isBody tx_X8_isBody tw_c8 ga_c_43 tl_X11_378 rfl rfl rfl rfl (fun _ => rfl) dX11_taken_50 (S_X8_isBody l hE _ (D7 (td_r g_c 46 (Int.toNat a1)) 1) D7) (fun r8 D9 => ?_)
        refine td_if_eq (tgt := 86) rfl dX11_taken_53 ?_ ?_
        · refine ts_bipush rfl dX11_taken_86 ?_
          exact td_iret rfl dX11_taken_88
        · refine ts_aload_n (i := 0) rfl rfl dX11_taken_56 ?_
          refine td_getR (q := 43) tl_X11_88 rfl ga_c_1 rfl dX11_taken_57 ?_
          refine td_getR (q := 44) tl_X11_417 rfl ga_c_43 rfl dX11_taken_60 ?_
          refine ts_iload rfl dX11_taken_63 ?_
          refine td_guard (fun h10 => ?_)
          refine td_ialdK ga_c_44 (gn_c_44 _) h10 dX11_taken_65 ?_
          refine ts_iload_n (i := 2) rfl rfl dX11_taken_66 ?_
          refine tq_callS (y2 := mX11_isUnder) [tv_I (D9 44 (Int.toNat (D7 (td_r g_c 46 (Int.toNat a1)) 1))), tv_I a2] [] (st' := fun r11 => [tv_I r11]) tw_X11_isUnder tx_X11_isUnder tl_X11_420 rfl rfl rfl rfl (fun _ => rfl) dX11_taken_67 (S_X11_isUnder l hE _ (D9 44 (Int.toNat (D7 (td_r g_c 46 (Int.toNat a1)) 1))) a2 D9) (fun r11 D12 => ?_)
          refine td_if_eq (tgt := 86) rfl dX11_taken_70 ?_ ?_
          · refine ts_bipush rfl dX11_taken_86 ?_
            exact td_iret rfl dX11_taken_88
          · refine ts_aload_n (i := 0) rfl rfl dX11_taken_73 ?_
            refine td_getR (q := 43) tl_X11_88 rfl ga_c_1 rfl dX11_taken_74 ?_
            refine td_getR (q := 44) tl_X11_417 rfl ga_c_43 rfl dX11_taken_77 ?_
            refine ts_iload rfl dX11_taken_80 ?_
            refine td_ialdK ga_c_44 (gn_c_44 _) h10 dX11_taken_82 ?_
            refine ts_goto (tgt := 88) rfl dX11_taken_83 ?_
            exact td_iret rfl dX11_taken_88
      · refine ts_iload_n (i := 3) rfl rfl dX11_taken_31 ?_
        exact td_iret rfl dX11_taken_32
def F_X11_count (a1 : Int) (D : td_D) : Option (Int × td_D) :=
  if a1 = 0 then
    some (D 2 0, D)
  else if a1 = 1 then
    some (D 2 1, D)
  else if a1 = 2 then
    some (D 2 2, D)
  else if a1 = 3 then
    some (D 10 1, D)
  else if a1 = 4 then
    some (D 32 5, D)
  else if a1 = 5 then
    some (D 43 1, D)
  else if a1 = 6 then
    some (D 43 3, D)
  else
    some ((-1), D)
set_option maxHeartbeats 4000000 in
set_option maxRecDepth 20000 in
theorem S_X11_count (l : Launch) {E : tv_E} (hE : tv_hE E) (d : Nat) (a1 : Int) (D : td_D) : td_msim l E (d + 0) mX11_count g_c [tv_R 1, tv_I a1] D (F_X11_count a1 D) := by
  refine td_meetL (ls := [tv_R 1, tv_I a1]) rfl (Nat.le_of_ble_eq_true rfl) rfl ?_
  unfold F_X11_count
  refine ts_iload_n (i := 1) rfl rfl dX11_count_0 ?_
  refine td_ite (fun h1 => ?_) (fun h1 => ?_)
  · refine ts_tabIn (i := 0) (tgt := 44) (by omega) (by omega) rfl rfl dX11_count_1 ?_
    refine ts_aload_n (i := 0) rfl rfl dX11_count_44 ?_
    refine td_getR (q := 2) tl_X11_12 rfl ga_c_1 rfl dX11_count_45 ?_
    refine td_getI tl_X11_103 rfl ga_c_2 rfl dX11_count_48 ?_
    exact td_iret rfl dX11_count_51
  refine td_ite (fun h2 => ?_) (fun h2 => ?_)
  · refine ts_tabIn (i := 1) (tgt := 52) (by omega) (by omega) rfl rfl dX11_count_1 ?_
    refine ts_aload_n (i := 0) rfl rfl dX11_count_52 ?_
    refine td_getR (q := 2) tl_X11_12 rfl ga_c_1 rfl dX11_count_53 ?_
    refine td_getI tl_X11_114 rfl ga_c_2 rfl dX11_count_56 ?_
    exact td_iret rfl dX11_count_59
  refine td_ite (fun h3 => ?_) (fun h3 => ?_)
  · refine ts_tabIn (i := 2) (tgt := 60) (by omega) (by omega) rfl rfl dX11_count_1 ?_
    refine ts_aload_n (i := 0) rfl rfl dX11_count_60 ?_
    refine td_getR (q := 2) tl_X11_12 rfl ga_c_1 rfl dX11_count_61 ?_
    refine td_getI tl_X11_124 rfl ga_c_2 rfl dX11_count_64 ?_
    exact td_iret rfl dX11_count_67
  refine td_ite (fun h4 => ?_) (fun h4 => ?_)
  · refine ts_tabIn (i := 3) (tgt := 68) (by omega) (by omega) rfl rfl dX11_count_1 ?_
    refine ts_aload_n (i := 0) rfl rfl dX11_count_68 ?_
    refine td_getR (q := 10) tl_X11_19 rfl ga_c_1 rfl dX11_count_69 ?_
    refine td_getI tl_X11_159 rfl ga_c_10 rfl dX11_count_72 ?_
    exact td_iret rfl dX11_count_75
  refine td_ite (fun h5 => ?_) (fun h5 => ?_)
  · refine ts_tabIn (i := 4) (tgt := 76) (by omega) (by omega) rfl rfl dX11_count_1 ?_
    refine ts_aload_n (i := 0) rfl rfl dX11_count_76 ?_
    refine td_getR (q := 32) tl_X11_71 rfl ga_c_1 rfl dX11_count_77 ?_
    refine td_getI tl_X11_354 rfl ga_c_32 rfl dX11_count_80 ?_
    exact td_iret rfl dX11_count_83
  refine td_ite (fun h6 => ?_) (fun h6 => ?_)
  · refine ts_tabIn (i := 5) (tgt := 84) (by omega) (by omega) rfl rfl dX11_count_1 ?_
    refine ts_aload_n (i := 0) rfl rfl dX11_count_84 ?_
    refine td_getR (q := 43) tl_X11_88 rfl ga_c_1 rfl dX11_count_85 ?_
    refine td_getI tl_X11_373 rfl ga_c_43 rfl dX11_count_88 ?_
    exact td_iret rfl dX11_count_91
  refine td_ite (fun h7 => ?_) (fun h7 => ?_)
  · refine ts_tabIn (i := 6) (tgt := 92) (by omega) (by omega) rfl rfl dX11_count_1 ?_
    refine ts_aload_n (i := 0) rfl rfl dX11_count_92 ?_
    refine td_getR (q := 43) tl_X11_88 rfl ga_c_1 rfl dX11_count_93 ?_
    refine td_getI tl_X11_375 rfl ga_c_43 rfl dX11_count_96 ?_
    exact td_iret rfl dX11_count_99
  refine ts_tabOut (tgt := 100) (by omega) rfl dX11_count_1 ?_
  refine ts_iconst rfl dX11_count_100 ?_
  exact td_iret rfl dX11_count_101
