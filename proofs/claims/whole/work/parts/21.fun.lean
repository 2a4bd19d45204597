def F_X4_firstDoer_3 : Nat → Int → Int → Int → td_D → Option (Int × td_D)
  | 0, _, _, _, _ => none
  | n + 1, v2, v3, v4, D =>
    if D 2 0 ≤ v4 then
      some ((-2), D)
    else
      td_b (F_X4_isFree v2 v3 v4 D) fun r1 D2 =>
      if r1 = 0 then
        F_X4_firstDoer_3 n v2 v3 (tv_w (v4 + 1)) D2
      else
        td_b (F_X4_worthBy v2 v3 v4 D2) fun r3 D4 =>
        if 0 ≤ tv_w ((tv_w (v2 * 64)) + v3) ∧ tv_w ((tv_w (v2 * 64)) + v3) < ((704 : Nat) : Int) then
          if r3 = D4 28 (Int.toNat (tv_w ((tv_w (v2 * 64)) + v3))) then
            some (v4, D4)
          else
            F_X4_firstDoer_3 n v2 v3 (tv_w (v4 + 1)) D4
        else none
set_option maxHeartbeats 4000000 in
set_option maxRecDepth 20000 in
theorem S_X4_firstDoer_3 {l : Launch} {E : tv_E} (hE : tv_hE E) (d : Nat) : ∀ (n : Nat) (v2 : Int) (v3 : Int) (v4 : Int) (D : td_D), td_sim l E (d + 2) mX4_firstDoer g_c 3 [tv_R 27, tv_R 2, tv_I v2, tv_I v3, tv_I v4] [] D (F_X4_firstDoer_3 n v2 v3 v4 D) := by
  intro n
  induction n with
  | zero => intros; exact tv_none
  | succ n ih =>
    intro v2 v3 v4 D
    show td_sim _ _ _ _ _ _ _ _ _ (F_X4_firstDoer_3 (n + 1) v2 v3 v4 D)
    unfold F_X4_firstDoer_3
    refine ts_iload rfl dX4_firstDoer_3 ?_
    refine ts_aload_n (i := 1) rfl rfl dX4_firstDoer_5 ?_
    refine td_getI tl_X4_25 rfl ga_c_2 rfl dX4_firstDoer_6 ?_
    refine td_icmp_ge (tgt := 55) rfl dX4_firstDoer_9 ?_ ?_
    · refine ts_bipush rfl dX4_firstDoer_55 ?_
      exact td_iret rfl dX4_firstDoer_57
    · refine ts_aload_n (i := 1) rfl rfl dX4_firstDoer_12 ?_
      refine ts_iload_n (i := 2) rfl rfl dX4_firstDoer_13 ?_
      refine ts_iload_n (i := 3) rfl rfl dX4_firstDoer_14 ?_
      refine ts_iload rfl dX4_firstDoer_15 ?_
      refine tq_callS (y2 := mX4_isFree) [tv_R 2, tv_I v2, tv_I v3, tv_I v4] [] (st' := fun r1 => [tv_I r1]) tw_X4_isFree tx_X4_isFree tl_X4_28 rfl rfl rfl rfl (fun _ => rfl) dX4_firstDoer_17 (S_X4_isFree l hE _ v2 v3 v4 D) (fun r1 D2 => ?_)
      refine td_if_eq (tgt := 49) rfl dX4_firstDoer_20 ?_ ?_
      · refine tq_iinc [tv_R 27, tv_R 2, tv_I v2, tv_I v3, tv_I (tv_w (v4 + 1))] rfl rfl rfl dX4_firstDoer_49 ?_
        refine ts_goto (tgt := 3) rfl dX4_firstDoer_52 ?_
        exact ih v2 v3 (tv_w (v4 + 1)) D2
      · refine ts_aload_n (i := 0) rfl rfl dX4_firstDoer_23 ?_
        refine ts_aload_n (i := 1) rfl rfl dX4_firstDoer_24 ?_
        refine ts_iload_n (i := 2) rfl rfl dX4_firstDoer_25 ?_
        refine ts_iload_n (i := 3) rfl rfl dX4_firstDoer_26 ?_
        refine ts_iload rfl dX4_firstDoer_27 ?_
        refine tq_callV (y2 := mX4_worthBy) [tv_R 2, tv_I v2, tv_I v3, tv_I v4] [] 27 (st' := fun r3 => [tv_I r3]) tw_X4_worthBy tx_X4_worthBy tw_c4 ga_c_27 tl_X4_32 rfl rfl rfl rfl (fun _ => rfl) dX4_firstDoer_29 (S_X4_worthBy l hE _ v2 v3 v4 D2) (fun r3 D4 => ?_)
        refine ts_aload_n (i := 0) rfl rfl dX4_firstDoer_32 ?_
        refine td_getR (q := 28) tl_X4_11 rfl ga_c_27 rfl dX4_firstDoer_33 ?_
        refine ts_iload_n (i := 2) rfl rfl dX4_firstDoer_36 ?_
        refine ts_bipush rfl dX4_firstDoer_37 ?_
        refine ts_imul dX4_firstDoer_39 ?_
        refine ts_iload_n (i := 3) rfl rfl dX4_firstDoer_40 ?_
        refine ts_iadd dX4_firstDoer_41 ?_
        refine td_guard (fun h5 => ?_)
        refine td_ialdK ga_c_28 (gn_c_28 _) h5 dX4_firstDoer_42 ?_
        refine td_icmp_ne (tgt := 49) rfl dX4_firstDoer_43 ?_ ?_
        · refine ts_iload rfl dX4_firstDoer_46 ?_
          exact td_iret rfl dX4_firstDoer_48
        · refine tq_iinc [tv_R 27, tv_R 2, tv_I v2, tv_I v3, tv_I (tv_w (v4 + 1))] rfl rfl rfl dX4_firstDoer_49 ?_
          refine ts_goto (tgt := 3) rfl dX4_firstDoer_52 ?_
          exact ih v2 v3 (tv_w (v4 + 1)) D4
def F_X4_firstDoer (a2 : Int) (a3 : Int) (D : td_D) : Option (Int × td_D) :=
  F_X4_firstDoer_3 tf_N a2 a3 0 D
set_option maxHeartbeats 4000000 in
set_option maxRecDepth 20000 in
theorem S_X4_firstDoer (l : Launch) {E : tv_E} (hE : tv_hE E) (d : Nat) (a2 : Int) (a3 : Int) (D : td_D) : td_msim l E (d + 2) mX4_firstDoer g_c [tv_R 27, tv_R 2, tv_I a2, tv_I a3] D (F_X4_firstDoer a2 a3 D) := by
  refine td_meetL (ls := [tv_R 27, tv_R 2, tv_I a2, tv_I a3, tv_U]) rfl (Nat.le_of_ble_eq_true rfl) rfl ?_
  unfold F_X4_firstDoer
  refine ts_iconst rfl dX4_firstDoer_0 ?_
  refine tq_istore [tv_R 27, tv_R 2, tv_I a2, tv_I a3, tv_I 0] (Nat.le_of_ble_eq_true rfl) rfl rfl dX4_firstDoer_1 ?_
  exact S_X4_firstDoer_3 hE d tf_N a2 a3 0 D
def F_X4_doerOf_9 : Nat → Int → Int → Int → Int → td_D → Option (Int × td_D)
  | 0, _, _, _, _, _ => none
  | n + 1, v2, v3, v4, v5, D =>
    if v2 < v5 then
      some (v4, D)
    else
      if D 2 2 ≤ v5 then
        some (v4, D)
      else
        td_b (F_X4_firstDoer v5 v3 D) fun r1 D2 =>
        if r1 = (-2) then
          F_X4_doerOf_9 n v2 (tv_or v3 0) r1 (tv_w (v5 + 1)) D2
        else
          F_X4_doerOf_9 n v2 (tv_or v3 (tv_shl 1 r1)) r1 (tv_w (v5 + 1)) D2
set_option maxHeartbeats 4000000 in
set_option maxRecDepth 20000 in
theorem S_X4_doerOf_9 {l : Launch} {E : tv_E} (hE : tv_hE E) (d : Nat) : ∀ (n : Nat) (v2 : Int) (v3 : Int) (v4 : Int) (v5 : Int) (D : td_D), td_sim l E (d + 3) mX4_doerOf g_c 9 [tv_R 27, tv_R 2, tv_I v2, tv_I v3, tv_I v4, tv_I v5] [] D (F_X4_doerOf_9 n v2 v3 v4 v5 D) := by
  intro n
  induction n with
  | zero => intros; exact tv_none
  | succ n ih =>
    intro v2 v3 v4 v5 D
    show td_sim _ _ _ _ _ _ _ _ _ (F_X4_doerOf_9 (n + 1) v2 v3 v4 v5 D)
    unfold F_X4_doerOf_9
    refine ts_iload rfl dX4_doerOf_9 ?_
    refine ts_iload_n (i := 2) rfl rfl dX4_doerOf_11 ?_
    refine td_icmp_gt (tgt := 58) rfl dX4_doerOf_12 ?_ ?_
    · refine ts_iload rfl dX4_doerOf_58 ?_
      exact td_iret rfl dX4_doerOf_60
    · refine ts_iload rfl dX4_doerOf_15 ?_
      refine ts_aload_n (i := 1) rfl rfl dX4_doerOf_17 ?_
      refine td_getI tl_X4_15 rfl ga_c_2 rfl dX4_doerOf_18 ?_
      refine td_icmp_ge (tgt := 58) rfl dX4_doerOf_21 ?_ ?_
      · refine ts_iload rfl dX4_doerOf_58 ?_
        exact td_iret rfl dX4_doerOf_60
      · refine ts_aload_n (i := 0) rfl rfl dX4_doerOf_24 ?_
        refine ts_aload_n (i := 1) rfl rfl dX4_doerOf_25 ?_
        refine ts_iload rfl dX4_doerOf_26 ?_
        refine ts_iload_n (i := 3) rfl rfl dX4_doerOf_28 ?_
        refine tq_callV (y2 := mX4_firstDoer) [tv_R 2, tv_I v5, tv_I v3] [] 27 (st' := fun r1 => [tv_I r1]) tw_X4_firstDoer tx_X4_firstDoer tw_c4 ga_c_27 tl_X4_52 rfl rfl rfl rfl (fun _ => rfl) dX4_doerOf_29 (S_X4_firstDoer l hE _ v5 v3 D) (fun r1 D2 => ?_)
        refine tq_istore [tv_R 27, tv_R 2, tv_I v2, tv_I v3, tv_I r1, tv_I v5] (Nat.le_of_ble_eq_true rfl) rfl rfl dX4_doerOf_32 ?_
        refine ts_iload_n (i := 3) rfl rfl dX4_doerOf_34 ?_
        refine ts_iload rfl dX4_doerOf_35 ?_
        refine ts_bipush rfl dX4_doerOf_37 ?_
        refine td_icmp_ne (tgt := 46) rfl dX4_doerOf_39 ?_ ?_
        · refine ts_iconst rfl dX4_doerOf_42 ?_
          refine ts_goto (tgt := 50) rfl dX4_doerOf_43 ?_
          refine ts_ior dX4_doerOf_50 ?_
          refine tq_istore_n [tv_R 27, tv_R 2, tv_I v2, tv_I (tv_or v3 0), tv_I r1, tv_I v5] rfl (Nat.le_of_ble_eq_true rfl) rfl rfl dX4_doerOf_51 ?_
          refine tq_iinc [tv_R 27, tv_R 2, tv_I v2, tv_I (tv_or v3 0), tv_I r1, tv_I (tv_w (v5 + 1))] rfl rfl rfl dX4_doerOf_52 ?_
          refine ts_goto (tgt := 9) rfl dX4_doerOf_55 ?_
          exact ih v2 (tv_or v3 0) r1 (tv_w (v5 + 1)) D2
        · refine ts_iconst rfl dX4_doerOf_46 ?_
          refine ts_iload rfl dX4_doerOf_47 ?_
          refine ts_ishl dX4_doerOf_49 ?_
          refine ts_ior dX4_doerOf_50 ?_
          refine tq_istore_n [tv_R 27, tv_R 2, tv_I v2, tv_I (tv_or v3 (tv_shl 1 r1)), tv_I r1, tv_I v5] rfl (Nat.le_of_ble_eq_true rfl) rfl rfl dX4_doerOf_51 ?_
          refine tq_iinc [tv_R 27, tv_R 2, tv_I v2, tv_I (tv_or v3 (tv_shl 1 r1)), tv_I r1, tv_I (tv_w (v5 + 1))] rfl rfl rfl dX4_doerOf_52 ?_
          refine ts_goto (tgt := 9) rfl dX4_doerOf_55 ?_
          exact ih v2 (tv_or v3 (tv_shl 1 r1)) r1 (tv_w (v5 + 1)) D2
def F_X4_doerOf (a2 : Int) (D : td_D) : Option (Int × td_D) :=
  F_X4_doerOf_9 tf_N a2 0 ((-2)) 0 D
set_option maxHeartbeats 4000000 in
set_option maxRecDepth 20000 in
theorem S_X4_doerOf (l : Launch) {E : tv_E} (hE : tv_hE E) (d : Nat) (a2 : Int) (D : td_D) : td_msim l E (d + 3) mX4_doerOf g_c [tv_R 27, tv_R 2, tv_I a2] D (F_X4_doerOf a2 D) := by
  refine td_meetL (ls := [tv_R 27, tv_R 2, tv_I a2, tv_U, tv_U, tv_U]) rfl (Nat.le_of_ble_eq_true rfl) rfl ?_
  unfold F_X4_doerOf
  refine ts_iconst rfl dX4_doerOf_0 ?_
  refine tq_istore_n [tv_R 27, tv_R 2, tv_I a2, tv_I 0, tv_U, tv_U] rfl (Nat.le_of_ble_eq_true rfl) rfl rfl dX4_doerOf_1 ?_
  refine ts_bipush rfl dX4_doerOf_2 ?_
  refine tq_istore [tv_R 27, tv_R 2, tv_I a2, tv_I 0, tv_I ((-2)), tv_U] (Nat.le_of_ble_eq_true rfl) rfl rfl dX4_doerOf_4 ?_
  refine ts_iconst rfl dX4_doerOf_6 ?_
  refine tq_istore [tv_R 27, tv_R 2, tv_I a2, tv_I 0, tv_I ((-2)), tv_I 0] (Nat.le_of_ble_eq_true rfl) rfl rfl dX4_doerOf_7 ?_
  exact S_X4_doerOf_9 hE d tf_N a2 0 ((-2)) 0 D
def F_X6_has (p0 : Nat) (a1 : Int) (D : td_D) : Option (Int × td_D) :=
  if a1 < 0 then
    some (0, D)
  else
    if D p0 2 ≤ a1 then
      some (0, D)
    else
      some (1, D)
set_option maxHeartbeats 4000000 in
set_option maxRecDepth 20000 in
theorem S_X6_has (l : Launch) {E : tv_E} (hE : tv_hE E) (d : Nat) (p0 : Nat) (a1 : Int) (hp0 : tv_isShelf p0) (D : td_D) : td_msim l E (d + 0) mX6_has g_c [tv_R p0, tv_I a1] D (F_X6_has p0 a1 D) := by
  refine td_meetL (ls := [tv_R p0, tv_I a1]) rfl (Nat.le_of_ble_eq_true rfl) rfl ?_
  unfold F_X6_has
  refine ts_iload_n (i := 1) rfl rfl dX6_has_0 ?_
  refine td_if_lt (tgt := 16) rfl dX6_has_1 ?_ ?_
  · refine ts_iconst rfl dX6_has_16 ?_
    exact td_zretK (Or.inl rfl) rfl dX6_has_17
  · refine ts_iload_n (i := 1) rfl rfl dX6_has_4 ?_
    refine ts_aload_n (i := 0) rfl rfl dX6_has_5 ?_
    refine td_getI tl_X6_18 rfl hp0.1 hp0.2.2.2.2 dX6_has_6 ?_
    refine td_icmp_ge (tgt := 16) rfl dX6_has_9 ?_ ?_
    · refine ts_iconst rfl dX6_has_16 ?_
      exact td_zretK (Or.inl rfl) rfl dX6_has_17
    · refine ts_iconst rfl dX6_has_12 ?_
      refine ts_goto (tgt := 17) rfl dX6_has_13 ?_
      exact td_zretK (Or.inr rfl) rfl dX6_has_17
def F_X6_at (p0 : Nat) (a1 : Int) (D : td_D) : Option (Int × td_D) :=
  td_b (F_X6_has p0 a1 D) fun r1 D2 =>
  if r1 = 0 then
    some ((-2000000000), D2)
  else
    if 0 ≤ a1 ∧ a1 < ((60 : Nat) : Int) then
      some (tv_w (D2 (td_r g_c p0 3) (Int.toNat a1)), D2)
    else none
set_option maxHeartbeats 4000000 in
set_option maxRecDepth 20000 in
theorem S_X6_at (l : Launch) {E : tv_E} (hE : tv_hE E) (d : Nat) (p0 : Nat) (a1 : Int) (hp0 : tv_isShelf p0) (D : td_D) : td_msim l E (d + 1) mX6_at g_c [tv_R p0, tv_I a1] D (F_X6_at p0 a1 D) := by
  refine td_meetL (ls := [tv_R p0, tv_I a1]) rfl (Nat.le_of_ble_eq_true rfl) rfl ?_
  unfold F_X6_at
  refine ts_aload_n (i := 0) rfl rfl dX6_at_0 ?_
  refine ts_iload_n (i := 1) rfl rfl dX6_at_1 ?_
  refine tq_callV (y2 := mX6_has) [tv_I a1] [] p0 (st' := fun r1 => [tv_I r1]) tw_X6_has tx_X6_has tw_c6 hp0.1 tl_X6_25 rfl rfl rfl rfl (fun _ => rfl) dX6_at_2 (S_X6_has l hE _ p0 a1 hp0 D) (fun r1 D2 => ?_)
  refine td_if_eq (tgt := 18) rfl dX6_at_5 ?_ ?_
  · refine ts_ldc rfl tl_X6_29 dX6_at_18 ?_
    exact td_iret rfl dX6_at_20
  · refine ts_aload_n (i := 0) rfl rfl dX6_at_8 ?_
    refine td_getR (q := td_r g_c p0 3) tl_X6_21 rfl hp0.1 hp0.2.1.1 dX6_at_9 ?_
    refine ts_iload_n (i := 1) rfl rfl dX6_at_12 ?_
    refine td_guard (fun h3 => ?_)
    refine td_laldK hp0.2.1.2.1 (hp0.2.1.2.2 _) h3 dX6_at_13 ?_
    refine ts_l2i dX6_at_14 ?_
    refine ts_goto (tgt := 20) rfl dX6_at_15 ?_
    exact td_iret rfl dX6_at_20
def F_X5_read_7 : Nat → Nat → Int → td_D → Option (Int × td_D)
  | 0, _, _, _ => none
  | n + 1, v2, v3, D =>
    if 20 ≤ v3 then
      some (0, D)
    else
      td_b (F_X6_at v2 v3 D) fun r1 D2 =>
      td_b (F_X3_isDeed r1 D2) fun r3 D4 =>
      if r3 = 0 then
        some (0, D4)
      else
        td_b (F_X6_at v2 v3 D4) fun r5 D6 =>
        if 0 ≤ v3 ∧ v3 < ((20 : Nat) : Int) then
          td_l (td_upd D6 30 (Int.toNat v3) r5) fun D8 =>
          td_l (td_upd D8 29 2 (tv_w ((D8 29 2) + 1))) fun D9 =>
          F_X5_read_7 n v2 (tv_w (v3 + 1)) D9
        else none
set_option maxHeartbeats 4000000 in
set_option maxRecDepth 20000 in
theorem S_X5_read_7 {l : Launch} {E : tv_E} (hE : tv_hE E) (d : Nat) : ∀ (n : Nat) (v2 : Nat) (v3 : Int) (D : td_D), tv_isShelf v2 → td_sim l E (d + 2) mX5_read g_c 7 [tv_R 29, tv_R 2, tv_R v2, tv_I v3] [] D (F_X5_read_7 n v2 v3 D) := by
  intro n
  induction n with
  | zero => intros; exact tv_none
  | succ n ih =>
    intro v2 v3 D hv2
    show td_sim _ _ _ _ _ _ _ _ _ (F_X5_read_7 (n + 1) v2 v3 D)
    unfold F_X5_read_7
    refine ts_iload_n (i := 3) rfl rfl dX5_read_7 ?_
    refine ts_bipush rfl dX5_read_8 ?_
    refine td_icmp_ge (tgt := 52) rfl dX5_read_10 ?_ ?_
    · exact td_vret rfl dX5_read_52
    · refine ts_aload_n (i := 1) rfl rfl dX5_read_13 ?_
      refine ts_aload_n (i := 2) rfl rfl dX5_read_14 ?_
      refine ts_iload_n (i := 3) rfl rfl dX5_read_15 ?_
      refine tq_callV (y2 := mX6_at) [tv_I v3] [tv_R 2] v2 (st' := fun r1 => [tv_I r1, tv_R 2]) tw_X6_at tx_X6_at tw_c6 hv2.1 tl_X5_25 rfl rfl rfl rfl (fun _ => rfl) dX5_read_16 (S_X6_at l hE _ v2 v3 hv2 D) (fun r1 D2 => ?_)
      refine tq_callV (y2 := mX3_isDeed) [tv_I r1] [] 2 (st' := fun r3 => [tv_I r3]) tw_X3_isDeed tx_X3_isDeed tw_c3 ga_c_2 tl_X5_31 rfl rfl rfl rfl (fun _ => rfl) dX5_read_19 (S_X3_isDeed l hE _ r1 D2) (fun r3 D4 => ?_)
      refine td_if_eq (tgt := 52) rfl dX5_read_22 ?_ ?_
      · exact td_vret rfl dX5_read_52
      · refine ts_aload_n (i := 0) rfl rfl dX5_read_25 ?_
        refine td_getR (q := 30) tl_X5_9 rfl ga_c_29 rfl dX5_read_26 ?_
        refine ts_iload_n (i := 3) rfl rfl dX5_read_29 ?_
        refine ts_aload_n (i := 2) rfl rfl dX5_read_30 ?_
        refine ts_iload_n (i := 3) rfl rfl dX5_read_31 ?_
        refine tq_callV (y2 := mX6_at) [tv_I v3] [tv_I v3, tv_R 30] v2 (st' := fun r5 => [tv_I r5, tv_I v3, tv_R 30]) tw_X6_at tx_X6_at tw_c6 hv2.1 tl_X5_25 rfl rfl rfl rfl (fun _ => rfl) dX5_read_32 (S_X6_at l hE _ v2 v3 hv2 D4) (fun r5 D6 => ?_)
        refine td_guard (fun h7 => ?_)
        refine td_iastK ga_c_30 (gn_c_30 _) h7 dX5_read_35 ?_
        refine td_let (fun D8 => ?_)
        refine ts_aload_n (i := 0) rfl rfl dX5_read_36 ?_
        refine ts_dupR dX5_read_37 ?_
        refine td_getI tl_X5_18 rfl ga_c_29 rfl dX5_read_38 ?_
        refine ts_iconst rfl dX5_read_41 ?_
        refine ts_iadd dX5_read_42 ?_
        refine td_putI tf_X5_18 (by intro h; cases h) rfl ga_c_29 rfl dX5_read_43 ?_
        refine td_let (fun D9 => ?_)
        refine tq_iinc [tv_R 29, tv_R 2, tv_R v2, tv_I (tv_w (v3 + 1))] rfl rfl rfl dX5_read_46 ?_
        refine ts_goto (tgt := 7) rfl dX5_read_49 ?_
        exact ih v2 (tv_w (v3 + 1)) D9 hv2
def F_X5_read (p2 : Nat) (D : td_D) : Option (Int × td_D) :=
  td_l (td_upd D 29 2 0) fun D10 =>
  F_X5_read_7 tf_N p2 0 D10
set_option maxHeartbeats 4000000 in
set_option maxRecDepth 20000 in
theorem S_X5_read (l : Launch) {E : tv_E} (hE : tv_hE E) (d : Nat) (p2 : Nat) (hp2 : tv_isShelf p2) (D : td_D) : td_msim l E (d + 2) mX5_read g_c [tv_R 29, tv_R 2, tv_R p2] D (F_X5_read p2 D) := by
  refine td_meetL (ls := [tv_R 29, tv_R 2, tv_R p2, tv_U]) rfl (Nat.le_of_ble_eq_true rfl) rfl ?_
  unfold F_X5_read
  refine ts_aload_n (i := 0) rfl rfl dX5_read_0 ?_
  refine ts_iconst rfl dX5_read_1 ?_
  refine td_putI tf_X5_18 (by intro h; cases h) rfl ga_c_29 rfl dX5_read_2 ?_
  refine td_let (fun D10 => ?_)
  refine ts_iconst rfl dX5_read_5 ?_
  refine tq_istore_n [tv_R 29, tv_R 2, tv_R p2, tv_I 0] rfl (Nat.le_of_ble_eq_true rfl) rfl rfl dX5_read_6 ?_
  exact S_X5_read_7 hE d tf_N p2 0 D10 hp2
def F_X5_worthWithoutGoing_12 : Nat → Int → Int → Int → td_D → Option (Int × td_D)
  | 0, _, _, _, _ => none
  | n + 1, v3, v4, v5, D =>
    if D 29 2 ≤ v5 then
      some (v4, D)
    else
      if 0 ≤ v5 ∧ v5 < ((20 : Nat) : Int) then
        if 0 ≤ v3 ∧ v3 < ((6 : Nat) : Int) then
          td_b (F_X3_mayDo (D 30 (Int.toNat v5)) (D 3 (Int.toNat v3)) D) fun r3 D4 =>
          if r3 = 0 then
            F_X5_worthWithoutGoing_12 n v3 (tv_w (v4 + 0)) (tv_w (v5 + 1)) D4
          else
            if 0 ≤ D4 30 (Int.toNat v5) ∧ D4 30 (Int.toNat v5) < ((10 : Nat) : Int) then
              F_X5_worthWithoutGoing_12 n v3 (tv_w (v4 + (D4 9 (Int.toNat (D4 30 (Int.toNat v5)))))) (tv_w (v5 + 1)) D4
            else none
        else none
      else none
set_option maxHeartbeats 4000000 in
set_option maxRecDepth 20000 in
theorem S_X5_worthWithoutGoing_12 {l : Launch} {E : tv_E} (hE : tv_hE E) (d : Nat) : ∀ (n : Nat) (v3 : Int) (v4 : Int) (v5 : Int) (D : td_D), td_sim l E (d + 3) mX5_worthWithoutGoing g_c 12 [tv_R 29, tv_R 2, tv_U, tv_I v3, tv_I v4, tv_I v5] [] D (F_X5_worthWithoutGoing_12 n v3 v4 v5 D) := by
  intro n
  induction n with
  | zero => intros; exact tv_none
  | succ n ih =>
    intro v3 v4 v5 D
    show td_sim _ _ _ _ _ _ _ _ _ (F_X5_worthWithoutGoing_12 (n + 1) v3 v4 v5 D)
    unfold F_X5_worthWithoutGoing_12
    refine ts_iload rfl dX5_worthWithoutGoing_12 ?_
    refine ts_aload_n (i := 0) rfl rfl dX5_worthWithoutGoing_14 ?_
    refine td_getI tl_X5_18 rfl ga_c_29 rfl dX5_worthWithoutGoing_15 ?_
    refine td_icmp_ge (tgt := 68) rfl dX5_worthWithoutGoing_18 ?_ ?_
    · refine ts_iload rfl dX5_worthWithoutGoing_68 ?_
      exact td_iret rfl dX5_worthWithoutGoing_70
    · refine ts_iload rfl dX5_worthWithoutGoing_21 ?_
      refine ts_aload_n (i := 1) rfl rfl dX5_worthWithoutGoing_23 ?_
      refine ts_aload_n (i := 0) rfl rfl dX5_worthWithoutGoing_24 ?_
      refine td_getR (q := 30) tl_X5_9 rfl ga_c_29 rfl dX5_worthWithoutGoing_25 ?_
      refine ts_iload rfl dX5_worthWithoutGoing_28 ?_
      refine td_guard (fun h1 => ?_)
      refine td_ialdK ga_c_30 (gn_c_30 _) h1 dX5_worthWithoutGoing_30 ?_
      refine ts_aload_n (i := 1) rfl rfl dX5_worthWithoutGoing_31 ?_
      refine td_getR (q := 3) tl_X5_41 rfl ga_c_2 rfl dX5_worthWithoutGoing_32 ?_
      refine ts_iload_n (i := 3) rfl rfl dX5_worthWithoutGoing_35 ?_
      refine td_guard (fun h2 => ?_)
      refine td_ialdK ga_c_3 (gn_c_3 _) h2 dX5_worthWithoutGoing_36 ?_
      refine tq_callV (y2 := mX3_mayDo) [tv_I (D 30 (Int.toNat v5)), tv_I (D 3 (Int.toNat v3))] [tv_I v4] 2 (st' := fun r3 => [tv_I r3, tv_I v4]) tw_X3_mayDo tx_X3_mayDo tw_c3 ga_c_2 tl_X5_42 rfl rfl rfl rfl (fun _ => rfl) dX5_worthWithoutGoing_37 (S_X3_mayDo l hE _ (D 30 (Int.toNat v5)) (D 3 (Int.toNat v3)) D) (fun r3 D4 => ?_)
      refine td_if_eq (tgt := 58) rfl dX5_worthWithoutGoing_40 ?_ ?_
      · refine ts_iconst rfl dX5_worthWithoutGoing_58 ?_
        refine ts_iadd dX5_worthWithoutGoing_59 ?_
        refine tq_istore [tv_R 29, tv_R 2, tv_U, tv_I v3, tv_I (tv_w (v4 + 0)), tv_I v5] (Nat.le_of_ble_eq_true rfl) rfl rfl dX5_worthWithoutGoing_60 ?_
        refine tq_iinc [tv_R 29, tv_R 2, tv_U, tv_I v3, tv_I (tv_w (v4 + 0)), tv_I (tv_w (v5 + 1))] rfl rfl rfl dX5_worthWithoutGoing_62 ?_
        refine ts_goto (tgt := 12) rfl dX5_worthWithoutGoing_65 ?_
        exact ih v3 (tv_w (v4 + 0)) (tv_w (v5 + 1)) D4
      · refine ts_aload_n (i := 1) rfl rfl dX5_worthWithoutGoing_43 ?_
        refine td_getR (q := 9) tl_X5_46 rfl ga_c_2 rfl dX5_worthWithoutGoing_44 ?_
        refine ts_aload_n (i := 0) rfl rfl dX5_worthWithoutGoing_47 ?_
        refine td_getR (q := 30) tl_X5_9 rfl ga_c_29 rfl dX5_worthWithoutGoing_48 ?_
        refine ts_iload rfl dX5_worthWithoutGoing_51 ?_
        refine td_ialdK ga_c_30 (gn_c_30 _) h1 dX5_worthWithoutGoing_53 ?_
        refine td_guard (fun h5 => ?_)
        refine td_ialdK ga_c_9 (gn_c_9 _) h5 dX5_worthWithoutGoing_54 ?_
        refine ts_goto (tgt := 59) rfl dX5_worthWithoutGoing_55 ?_
        refine ts_iadd dX5_worthWithoutGoing_59 ?_
        refine tq_istore [tv_R 29, tv_R 2, tv_U, tv_I v3, tv_I (tv_w (v4 + (D4 9 (Int.toNat (D4 30 (Int.toNat v5)))))), tv_I v5] (Nat.le_of_ble_eq_true rfl) rfl rfl dX5_worthWithoutGoing_60 ?_
        refine tq_iinc [tv_R 29, tv_R 2, tv_U, tv_I v3, tv_I (tv_w (v4 + (D4 9 (Int.toNat (D4 30 (Int.toNat v5)))))), tv_I (tv_w (v5 + 1))] rfl rfl rfl dX5_worthWithoutGoing_62 ?_
        refine ts_goto (tgt := 12) rfl dX5_worthWithoutGoing_65 ?_
        exact ih v3 (tv_w (v4 + (D4 9 (Int.toNat (D4 30 (Int.toNat v5)))))) (tv_w (v5 + 1)) D4
def F_X5_worthWithoutGoing (p2 : Nat) (a3 : Int) (D : td_D) : Option (Int × td_D) :=
  td_b (F_X5_read p2 D) fun _ D7 =>
  F_X5_worthWithoutGoing_12 tf_N a3 0 0 D7
set_option maxHeartbeats 4000000 in
set_option maxRecDepth 20000 in
theorem S_X5_worthWithoutGoing (l : Launch) {E : tv_E} (hE : tv_hE E) (d : Nat) (p2 : Nat) (a3 : Int) (hp2 : tv_isShelf p2) (D : td_D) : td_msim l E (d + 3) mX5_worthWithoutGoing g_c [tv_R 29, tv_R 2, tv_R p2, tv_I a3] D (F_X5_worthWithoutGoing p2 a3 D) := by
  refine td_meetL (ls := [tv_R 29, tv_R 2, tv_R p2, tv_I a3, tv_U, tv_U]) rfl (Nat.le_of_ble_eq_true rfl) rfl ?_
  unfold F_X5_worthWithoutGoing
  refine ts_aload_n (i := 0) rfl rfl dX5_worthWithoutGoing_0 ?_
  refine ts_aload_n (i := 1) rfl rfl dX5_worthWithoutGoing_1 ?_
  refine ts_aload_n (i := 2) rfl rfl dX5_worthWithoutGoing_2 ?_
  refine tq_callV (y2 := mX5_read) [tv_R 2, tv_R p2] [] 29 (st' := fun _ => []) tw_X5_read tx_X5_read tw_c5 ga_c_29 tl_X5_37 rfl rfl rfl rfl (fun _ => rfl) dX5_worthWithoutGoing_3 (S_X5_read l hE _ p2 hp2 D) (fun r6 D7 => ?_)
  refine ts_iconst rfl dX5_worthWithoutGoing_6 ?_
  refine tq_istore [tv_R 29, tv_R 2, tv_R p2, tv_I a3, tv_I 0, tv_U] (Nat.le_of_ble_eq_true rfl) rfl rfl dX5_worthWithoutGoing_7 ?_
  refine ts_iconst rfl dX5_worthWithoutGoing_9 ?_
  refine tq_istore [tv_R 29, tv_R 2, tv_R p2, tv_I a3, tv_I 0, tv_I 0] (Nat.le_of_ble_eq_true rfl) rfl rfl dX5_worthWithoutGoing_10 ?_
  refine tv_weak (ls' := [tv_R 29, tv_R 2, tv_U, tv_I a3, tv_I 0, tv_I 0]) ⟨Or.inr rfl, Or.inr rfl, Or.inl rfl, Or.inr rfl, Or.inr rfl, Or.inr rfl, trivial⟩ ?_
  exact S_X5_worthWithoutGoing_12 hE d tf_N a3 0 0 D7
def F_X5_goOnceFrom_90 : Nat → Int → Int → Int → td_D → Option (Int × td_D)
  | 0, _, _, _, _ => none
  | n + 1, v3, v5, v6, D =>
    if v5 ≤ v6 then
      some (v5, D)
    else
      if 0 ≤ v6 ∧ v6 < ((20 : Nat) : Int) then
        td_l (td_upd D 31 (Int.toNat v6) v3) fun D2 =>
        F_X5_goOnceFrom_90 n v3 v5 (tv_w (v6 + 1)) D2
      else none
set_option maxHeartbeats 4000000 in
set_option maxRecDepth 20000 in
theorem S_X5_goOnceFrom_90 {l : Launch} {E : tv_E} (hE : tv_hE E) (d : Nat) : ∀ (n : Nat) (v3 : Int) (v5 : Int) (v6 : Int) (D : td_D), td_sim l E (d + 1) mX5_goOnceFrom g_c 90 [tv_R 29, tv_U, tv_U, tv_I v3, tv_U, tv_I v5, tv_I v6, tv_U, tv_U] [] D (F_X5_goOnceFrom_90 n v3 v5 v6 D) := by
  intro n
  induction n with
  | zero => intros; exact tv_none
  | succ n ih =>
    intro v3 v5 v6 D
    show td_sim _ _ _ _ _ _ _ _ _ (F_X5_goOnceFrom_90 (n + 1) v3 v5 v6 D)
    unfold F_X5_goOnceFrom_90
    refine ts_iload rfl dX5_goOnceFrom_90 ?_
    refine ts_iload rfl dX5_goOnceFrom_92 ?_
    refine td_icmp_ge (tgt := 111) rfl dX5_goOnceFrom_94 ?_ ?_
    · refine ts_iload rfl dX5_goOnceFrom_111 ?_
      exact td_iret rfl dX5_goOnceFrom_113
    · refine ts_aload_n (i := 0) rfl rfl dX5_goOnceFrom_97 ?_
      refine td_getR (q := 31) tl_X5_15 rfl ga_c_29 rfl dX5_goOnceFrom_98 ?_
      refine ts_iload rfl dX5_goOnceFrom_101 ?_
      refine ts_iload_n (i := 3) rfl rfl dX5_goOnceFrom_103 ?_
      refine td_guard (fun h1 => ?_)
      refine td_iastK ga_c_31 (gn_c_31 _) h1 dX5_goOnceFrom_104 ?_
      refine td_let (fun D2 => ?_)
      refine tq_iinc [tv_R 29, tv_U, tv_U, tv_I v3, tv_U, tv_I v5, tv_I (tv_w (v6 + 1)), tv_U, tv_U] rfl rfl rfl dX5_goOnceFrom_105 ?_
      refine ts_goto (tgt := 90) rfl dX5_goOnceFrom_108 ?_
      exact ih v3 v5 (tv_w (v6 + 1)) D2
def F_X5_goOnceFrom_12 : Nat → Int → Int → Int → Int → Int → td_D → Option (Int × td_D)
  | 0, _, _, _, _, _, _ => none
  | n + 1, v2, v3, v4, v5, v6, D =>
    if D 29 2 ≤ v6 then
      F_X5_goOnceFrom_90 tf_N v3 v5 v2 D
    else
      if 0 ≤ v6 ∧ v6 < ((20 : Nat) : Int) then
        if 0 ≤ D 30 (Int.toNat v6) ∧ D 30 (Int.toNat v6) < ((10 : Nat) : Int) then
          if tv_max v3 (D 7 (Int.toNat (D 30 (Int.toNat v6)))) ≤ tv_min v4 (D 8 (Int.toNat (D 30 (Int.toNat v6)))) then
            F_X5_goOnceFrom_12 n v2 (tv_max v3 (D 7 (Int.toNat (D 30 (Int.toNat v6))))) (tv_min v4 (D 8 (Int.toNat (D 30 (Int.toNat v6))))) (tv_w (v6 + 1)) (tv_w (v6 + 1)) D
          else
            F_X5_goOnceFrom_90 tf_N v3 v5 v2 D
        else none
      else none
set_option maxHeartbeats 4000000 in
set_option maxRecDepth 20000 in
theorem S_X5_goOnceFrom_12 {l : Launch} {E : tv_E} (hE : tv_hE E) (d : Nat) : ∀ (n : Nat) (v2 : Int) (v3 : Int) (v4 : Int) (v5 : Int) (v6 : Int) (D : td_D), td_sim l E (d + 1) mX5_goOnceFrom g_c 12 [tv_R 29, tv_R 2, tv_I v2, tv_I v3, tv_I v4, tv_I v5, tv_I v6, tv_U, tv_U] [] D (F_X5_goOnceFrom_12 n v2 v3 v4 v5 v6 D) := by
  intro n
  induction n with
  | zero => intros; exact tv_none
  | succ n ih =>
    intro v2 v3 v4 v5 v6 D
    show td_sim _ _ _ _ _ _ _ _ _ (F_X5_goOnceFrom_12 (n + 1) v2 v3 v4 v5 v6 D)
    unfold F_X5_goOnceFrom_12
    refine ts_iload rfl dX5_goOnceFrom_12 ?_
    refine ts_aload_n (i := 0) rfl rfl dX5_goOnceFrom_14 ?_
    refine td_getI tl_X5_18 rfl ga_c_29 rfl dX5_goOnceFrom_15 ?_
    refine td_icmp_ge (tgt := 87) rfl dX5_goOnceFrom_18 ?_ ?_
    · refine ts_iload_n (i := 2) rfl rfl dX5_goOnceFrom_87 ?_
      refine tq_istore [tv_R 29, tv_R 2, tv_I v2, tv_I v3, tv_I v4, tv_I v5, tv_I v2, tv_U, tv_U] (Nat.le_of_ble_eq_true rfl) rfl rfl dX5_goOnceFrom_88 ?_
      refine tv_weak (ls' := [tv_R 29, tv_U, tv_U, tv_I v3, tv_U, tv_I v5, tv_I v2, tv_U, tv_U]) ⟨Or.inr rfl, Or.inl rfl, Or.inl rfl, Or.inr rfl, Or.inl rfl, Or.inr rfl, Or.inr rfl, Or.inl rfl, Or.inl rfl, trivial⟩ ?_
      exact S_X5_goOnceFrom_90 hE d tf_N v3 v5 v2 D
    · refine ts_iload_n (i := 3) rfl rfl dX5_goOnceFrom_21 ?_
      refine ts_aload_n (i := 1) rfl rfl dX5_goOnceFrom_22 ?_
      refine td_getR (q := 7) tl_X5_69 rfl ga_c_2 rfl dX5_goOnceFrom_23 ?_
      refine ts_aload_n (i := 0) rfl rfl dX5_goOnceFrom_26 ?_
      refine td_getR (q := 30) tl_X5_9 rfl ga_c_29 rfl dX5_goOnceFrom_27 ?_
      refine ts_iload rfl dX5_goOnceFrom_30 ?_
      refine td_guard (fun h3 => ?_)
      refine td_ialdK ga_c_30 (gn_c_30 _) h3 dX5_goOnceFrom_32 ?_
      refine td_guard (fun h4 => ?_)
      refine td_ialdK ga_c_7 (gn_c_7 _) h4 dX5_goOnceFrom_33 ?_
      refine ts_mmax rfl rfl tl_X5_72 dX5_goOnceFrom_34 ?_
      refine tq_istore [tv_R 29, tv_R 2, tv_I v2, tv_I v3, tv_I v4, tv_I v5, tv_I v6, tv_I (tv_max v3 (D 7 (Int.toNat (D 30 (Int.toNat v6))))), tv_U] (Nat.le_of_ble_eq_true rfl) rfl rfl dX5_goOnceFrom_37 ?_
      refine ts_iload rfl dX5_goOnceFrom_39 ?_
      refine ts_aload_n (i := 1) rfl rfl dX5_goOnceFrom_41 ?_
      refine td_getR (q := 8) tl_X5_78 rfl ga_c_2 rfl dX5_goOnceFrom_42 ?_
      refine ts_aload_n (i := 0) rfl rfl dX5_goOnceFrom_45 ?_
      refine td_getR (q := 30) tl_X5_9 rfl ga_c_29 rfl dX5_goOnceFrom_46 ?_
      refine ts_iload rfl dX5_goOnceFrom_49 ?_
      refine td_ialdK ga_c_30 (gn_c_30 _) h3 dX5_goOnceFrom_51 ?_
      refine td_ialdK ga_c_8 (gn_c_8 _) h4 dX5_goOnceFrom_52 ?_
      refine ts_mmin rfl rfl tl_X5_81 dX5_goOnceFrom_53 ?_
      refine tq_istore [tv_R 29, tv_R 2, tv_I v2, tv_I v3, tv_I v4, tv_I v5, tv_I v6, tv_I (tv_max v3 (D 7 (Int.toNat (D 30 (Int.toNat v6))))), tv_I (tv_min v4 (D 8 (Int.toNat (D 30 (Int.toNat v6)))))] (Nat.le_of_ble_eq_true rfl) rfl rfl dX5_goOnceFrom_56 ?_
      refine ts_iload rfl dX5_goOnceFrom_58 ?_
      refine ts_iload rfl dX5_goOnceFrom_60 ?_
      refine td_icmp_le (tgt := 68) rfl dX5_goOnceFrom_62 ?_ ?_
      · refine ts_iload rfl dX5_goOnceFrom_68 ?_
        refine tq_istore_n [tv_R 29, tv_R 2, tv_I v2, tv_I (tv_max v3 (D 7 (Int.toNat (D 30 (Int.toNat v6))))), tv_I v4, tv_I v5, tv_I v6, tv_I (tv_max v3 (D 7 (Int.toNat (D 30 (Int.toNat v6))))), tv_I (tv_min v4 (D 8 (Int.toNat (D 30 (Int.toNat v6)))))] rfl (Nat.le_of_ble_eq_true rfl) rfl rfl dX5_goOnceFrom_70 ?_
        refine ts_iload rfl dX5_goOnceFrom_71 ?_
        refine tq_istore [tv_R 29, tv_R 2, tv_I v2, tv_I (tv_max v3 (D 7 (Int.toNat (D 30 (Int.toNat v6))))), tv_I (tv_min v4 (D 8 (Int.toNat (D 30 (Int.toNat v6))))), tv_I v5, tv_I v6, tv_I (tv_max v3 (D 7 (Int.toNat (D 30 (Int.toNat v6))))), tv_I (tv_min v4 (D 8 (Int.toNat (D 30 (Int.toNat v6)))))] (Nat.le_of_ble_eq_true rfl) rfl rfl dX5_goOnceFrom_73 ?_
        refine ts_iload rfl dX5_goOnceFrom_75 ?_
        refine ts_iconst rfl dX5_goOnceFrom_77 ?_
        refine ts_iadd dX5_goOnceFrom_78 ?_
        refine tq_istore [tv_R 29, tv_R 2, tv_I v2, tv_I (tv_max v3 (D 7 (Int.toNat (D 30 (Int.toNat v6))))), tv_I (tv_min v4 (D 8 (Int.toNat (D 30 (Int.toNat v6))))), tv_I (tv_w (v6 + 1)), tv_I v6, tv_I (tv_max v3 (D 7 (Int.toNat (D 30 (Int.toNat v6))))), tv_I (tv_min v4 (D 8 (Int.toNat (D 30 (Int.toNat v6)))))] (Nat.le_of_ble_eq_true rfl) rfl rfl dX5_goOnceFrom_79 ?_
        refine tq_iinc [tv_R 29, tv_R 2, tv_I v2, tv_I (tv_max v3 (D 7 (Int.toNat (D 30 (Int.toNat v6))))), tv_I (tv_min v4 (D 8 (Int.toNat (D 30 (Int.toNat v6))))), tv_I (tv_w (v6 + 1)), tv_I (tv_w (v6 + 1)), tv_I (tv_max v3 (D 7 (Int.toNat (D 30 (Int.toNat v6))))), tv_I (tv_min v4 (D 8 (Int.toNat (D 30 (Int.toNat v6)))))] rfl rfl rfl dX5_goOnceFrom_81 ?_
        refine ts_goto (tgt := 12) rfl dX5_goOnceFrom_84 ?_
        refine tv_weak (ls' := [tv_R 29, tv_R 2, tv_I v2, tv_I (tv_max v3 (D 7 (Int.toNat (D 30 (Int.toNat v6))))), tv_I (tv_min v4 (D 8 (Int.toNat (D 30 (Int.toNat v6))))), tv_I (tv_w (v6 + 1)), tv_I (tv_w (v6 + 1)), tv_U, tv_U]) ⟨Or.inr rfl, Or.inr rfl, Or.inr rfl, Or.inr rfl, Or.inr rfl, Or.inr rfl, Or.inr rfl, Or.inl rfl, Or.inl rfl, trivial⟩ ?_
        exact ih v2 (tv_max v3 (D 7 (Int.toNat (D 30 (Int.toNat v6))))) (tv_min v4 (D 8 (Int.toNat (D 30 (Int.toNat v6))))) (tv_w (v6 + 1)) (tv_w (v6 + 1)) D
      · refine ts_goto (tgt := 87) rfl dX5_goOnceFrom_65 ?_
        refine ts_iload_n (i := 2) rfl rfl dX5_goOnceFrom_87 ?_
        refine tq_istore [tv_R 29, tv_R 2, tv_I v2, tv_I v3, tv_I v4, tv_I v5, tv_I v2, tv_I (tv_max v3 (D 7 (Int.toNat (D 30 (Int.toNat v6))))), tv_I (tv_min v4 (D 8 (Int.toNat (D 30 (Int.toNat v6)))))] (Nat.le_of_ble_eq_true rfl) rfl rfl dX5_goOnceFrom_88 ?_
        refine tv_weak (ls' := [tv_R 29, tv_U, tv_U, tv_I v3, tv_U, tv_I v5, tv_I v2, tv_U, tv_U]) ⟨Or.inr rfl, Or.inl rfl, Or.inl rfl, Or.inr rfl, Or.inl rfl, Or.inr rfl, Or.inr rfl, Or.inl rfl, Or.inl rfl, trivial⟩ ?_
        exact S_X5_goOnceFrom_90 hE d tf_N v3 v5 v2 D
def F_X5_goOnceFrom (a2 : Int) (D : td_D) : Option (Int × td_D) :=
  F_X5_goOnceFrom_12 tf_N a2 0 99 a2 a2 D
set_option maxHeartbeats 4000000 in
set_option maxRecDepth 20000 in
theorem S_X5_goOnceFrom (l : Launch) {E : tv_E} (hE : tv_hE E) (d : Nat) (a2 : Int) (D : td_D) : td_msim l E (d + 1) mX5_goOnceFrom g_c [tv_R 29, tv_R 2, tv_I a2] D (F_X5_goOnceFrom a2 D) := by
  refine td_meetL (ls := [tv_R 29, tv_R 2, tv_I a2, tv_U, tv_U, tv_U, tv_U, tv_U, tv_U]) rfl (Nat.le_of_ble_eq_true rfl) rfl ?_
  unfold F_X5_goOnceFrom
  refine ts_iconst rfl dX5_goOnceFrom_0 ?_
  refine tq_istore_n [tv_R 29, tv_R 2, tv_I a2, tv_I 0, tv_U, tv_U, tv_U, tv_U, tv_U] rfl (Nat.le_of_ble_eq_true rfl) rfl rfl dX5_goOnceFrom_1 ?_
  refine ts_bipush rfl dX5_goOnceFrom_2 ?_
  refine tq_istore [tv_R 29, tv_R 2, tv_I a2, tv_I 0, tv_I 99, tv_U, tv_U, tv_U, tv_U] (Nat.le_of_ble_eq_true rfl) rfl rfl dX5_goOnceFrom_4 ?_
  refine ts_iload_n (i := 2) rfl rfl dX5_goOnceFrom_6 ?_
  refine tq_istore [tv_R 29, tv_R 2, tv_I a2, tv_I 0, tv_I 99, tv_I a2, tv_U, tv_U, tv_U] (Nat.le_of_ble_eq_true rfl) rfl rfl dX5_goOnceFrom_7 ?_
  refine ts_iload_n (i := 2) rfl rfl dX5_goOnceFrom_9 ?_
  refine tq_istore [tv_R 29, tv_R 2, tv_I a2, tv_I 0, tv_I 99, tv_I a2, tv_I a2, tv_U, tv_U] (Nat.le_of_ble_eq_true rfl) rfl rfl dX5_goOnceFrom_10 ?_
  exact S_X5_goOnceFrom_12 hE d tf_N a2 0 99 a2 a2 D
def F_X7_allOf_4 : Nat → Nat → Int → Int → Int → td_D → Option (Int × td_D)
  | 0, _, _, _, _, _ => none
  | n + 1, v0, v1, v2, v3, D =>
    if 5 ≤ v3 then
      some (v2, D)
    else
      td_b (F_X7_share v0 v3 v1 D) fun r1 D2 =>
      F_X7_allOf_4 n v0 v1 (tv_w (v2 + r1)) (tv_w (v3 + 1)) D2
set_option maxHeartbeats 4000000 in
set_option maxRecDepth 20000 in
theorem S_X7_allOf_4 {l : Launch} {E : tv_E} (hE : tv_hE E) (d : Nat) : ∀ (n : Nat) (v0 : Nat) (v1 : Int) (v2 : Int) (v3 : Int) (D : td_D), tv_isStock v0 → td_sim l E (d + 1) mX7_allOf g_c 4 [tv_R v0, tv_I v1, tv_I v2, tv_I v3] [] D (F_X7_allOf_4 n v0 v1 v2 v3 D) := by
  intro n
  induction n with
  | zero => intros; exact tv_none
  | succ n ih =>
    intro v0 v1 v2 v3 D hv0
    show td_sim _ _ _ _ _ _ _ _ _ (F_X7_allOf_4 (n + 1) v0 v1 v2 v3 D)
    unfold F_X7_allOf_4
    refine ts_iload_n (i := 3) rfl rfl dX7_allOf_4 ?_
    refine ts_iconst rfl dX7_allOf_5 ?_
    refine td_icmp_ge (tgt := 24) rfl dX7_allOf_6 ?_ ?_
    · refine ts_iload_n (i := 2) rfl rfl dX7_allOf_24 ?_
      exact td_iret rfl dX7_allOf_25
    · refine ts_iload_n (i := 2) rfl rfl dX7_allOf_9 ?_
      refine ts_aload_n (i := 0) rfl rfl dX7_allOf_10 ?_
      refine ts_iload_n (i := 3) rfl rfl dX7_allOf_11 ?_
      refine ts_iload_n (i := 1) rfl rfl dX7_allOf_12 ?_
      refine tq_callV (y2 := mX7_share) [tv_I v3, tv_I v1] [tv_I v2] v0 (st' := fun r1 => [tv_I r1, tv_I v2]) tw_X7_share tx_X7_share tw_c7 hv0.1 tl_X7_15 rfl rfl rfl rfl (fun _ => rfl) dX7_allOf_13 (S_X7_share l hE _ v0 v3 v1 hv0 D) (fun r1 D2 => ?_)
      refine ts_iadd dX7_allOf_16 ?_
      refine tq_istore_n [tv_R v0, tv_I v1, tv_I (tv_w (v2 + r1)), tv_I v3] rfl (Nat.le_of_ble_eq_true rfl) rfl rfl dX7_allOf_17 ?_
      refine tq_iinc [tv_R v0, tv_I v1, tv_I (tv_w (v2 + r1)), tv_I (tv_w (v3 + 1))] rfl rfl rfl dX7_allOf_18 ?_
      refine ts_goto (tgt := 4) rfl dX7_allOf_21 ?_
      exact ih v0 v1 (tv_w (v2 + r1)) (tv_w (v3 + 1)) D2 hv0
def F_X7_allOf (p0 : Nat) (a1 : Int) (D : td_D) : Option (Int × td_D) :=
  F_X7_allOf_4 tf_N p0 a1 0 0 D
set_option maxHeartbeats 4000000 in
set_option maxRecDepth 20000 in
theorem S_X7_allOf (l : Launch) {E : tv_E} (hE : tv_hE E) (d : Nat) (p0 : Nat) (a1 : Int) (hp0 : tv_isStock p0) (D : td_D) : td_msim l E (d + 1) mX7_allOf g_c [tv_R p0, tv_I a1] D (F_X7_allOf p0 a1 D) := by
  refine td_meetL (ls := [tv_R p0, tv_I a1, tv_U, tv_U]) rfl (Nat.le_of_ble_eq_true rfl) rfl ?_
  unfold F_X7_allOf
  refine ts_iconst rfl dX7_allOf_0 ?_
  refine tq_istore_n [tv_R p0, tv_I a1, tv_I 0, tv_U] rfl (Nat.le_of_ble_eq_true rfl) rfl rfl dX7_allOf_1 ?_
  refine ts_iconst rfl dX7_allOf_2 ?_
  refine tq_istore_n [tv_R p0, tv_I a1, tv_I 0, tv_I 0] rfl (Nat.le_of_ble_eq_true rfl) rfl rfl dX7_allOf_3 ?_
  exact S_X7_allOf_4 hE d tf_N p0 a1 0 0 D hp0
def F_X5_needsMoreThan_2 : Nat → Int → Int → td_D → Option (Int × td_D)
  | 0, _, _, _ => none
  | n + 1, v2, v3, D =>
    if D 29 2 ≤ v3 then
      some (0, D)
    else
      if 0 ≤ v3 ∧ v3 < ((20 : Nat) : Int) then
        if 0 ≤ D 30 (Int.toNat v3) ∧ D 30 (Int.toNat v3) < ((10 : Nat) : Int) then
          if D 7 (Int.toNat (D 30 (Int.toNat v3))) ≤ v2 then
            F_X5_needsMoreThan_2 n v2 (tv_w (v3 + 1)) D
          else
            some (1, D)
        else none
      else none
set_option maxHeartbeats 4000000 in
set_option maxRecDepth 20000 in
theorem S_X5_needsMoreThan_2 {l : Launch} {E : tv_E} (hE : tv_hE E) (d : Nat) : ∀ (n : Nat) (v2 : Int) (v3 : Int) (D : td_D), td_sim l E (d + 0) mX5_needsMoreThan g_c 2 [tv_R 29, tv_R 2, tv_I v2, tv_I v3] [] D (F_X5_needsMoreThan_2 n v2 v3 D) := by
  intro n
  induction n with
  | zero => intros; exact tv_none
  | succ n ih =>
    intro v2 v3 D
    show td_sim _ _ _ _ _ _ _ _ _ (F_X5_needsMoreThan_2 (n + 1) v2 v3 D)
    unfold F_X5_needsMoreThan_2
    refine ts_iload_n (i := 3) rfl rfl dX5_needsMoreThan_2 ?_
    refine ts_aload_n (i := 0) rfl rfl dX5_needsMoreThan_3 ?_
    refine td_getI tl_X5_18 rfl ga_c_29 rfl dX5_needsMoreThan_4 ?_
    refine td_icmp_ge (tgt := 33) rfl dX5_needsMoreThan_7 ?_ ?_
    · refine ts_iconst rfl dX5_needsMoreThan_33 ?_
      exact td_zretK (Or.inl rfl) rfl dX5_needsMoreThan_34
    · refine ts_aload_n (i := 1) rfl rfl dX5_needsMoreThan_10 ?_
      refine td_getR (q := 7) tl_X5_69 rfl ga_c_2 rfl dX5_needsMoreThan_11 ?_
      refine ts_aload_n (i := 0) rfl rfl dX5_needsMoreThan_14 ?_
      refine td_getR (q := 30) tl_X5_9 rfl ga_c_29 rfl dX5_needsMoreThan_15 ?_
      refine ts_iload_n (i := 3) rfl rfl dX5_needsMoreThan_18 ?_
      refine td_guard (fun h1 => ?_)
      refine td_ialdK ga_c_30 (gn_c_30 _) h1 dX5_needsMoreThan_19 ?_
      refine td_guard (fun h2 => ?_)
      refine td_ialdK ga_c_7 (gn_c_7 _) h2 dX5_needsMoreThan_20 ?_
      refine ts_iload_n (i := 2) rfl rfl dX5_needsMoreThan_21 ?_
      refine td_icmp_le (tgt := 27) rfl dX5_needsMoreThan_22 ?_ ?_
      · refine tq_iinc [tv_R 29, tv_R 2, tv_I v2, tv_I (tv_w (v3 + 1))] rfl rfl rfl dX5_needsMoreThan_27 ?_
        refine ts_goto (tgt := 2) rfl dX5_needsMoreThan_30 ?_
        exact ih v2 (tv_w (v3 + 1)) D
      · refine ts_iconst rfl dX5_needsMoreThan_25 ?_
        exact td_zretK (Or.inr rfl) rfl dX5_needsMoreThan_26
def F_X5_needsMoreThan (a2 : Int) (D : td_D) : Option (Int × td_D) :=
  F_X5_needsMoreThan_2 tf_N a2 0 D
set_option maxHeartbeats 4000000 in
set_option maxRecDepth 20000 in
theorem S_X5_needsMoreThan (l : Launch) {E : tv_E} (hE : tv_hE E) (d : Nat) (a2 : Int) (D : td_D) : td_msim l E (d + 0) mX5_needsMoreThan g_c [tv_R 29, tv_R 2, tv_I a2] D (F_X5_needsMoreThan a2 D) := by
  refine td_meetL (ls := [tv_R 29, tv_R 2, tv_I a2, tv_U]) rfl (Nat.le_of_ble_eq_true rfl) rfl ?_
  unfold F_X5_needsMoreThan
  refine ts_iconst rfl dX5_needsMoreThan_0 ?_
  refine tq_istore_n [tv_R 29, tv_R 2, tv_I a2, tv_I 0] rfl (Nat.le_of_ble_eq_true rfl) rfl rfl dX5_needsMoreThan_1 ?_
  exact S_X5_needsMoreThan_2 hE d tf_N a2 0 D
def F_X5_plan_96 : Nat → Int → Int → td_D → Option (Int × td_D)
  | 0, _, _, _ => none
  | n + 1, v4, v5, D =>
    if 20 ≤ v5 then
      if D 29 3 = 0 then
        some (1, D)
      else
        if D 2 1 ≤ 0 then
          some (0, D)
        else
          some (1, D)
    else
      if D 29 2 ≤ v4 then
        if D 29 3 = 0 then
          some (1, D)
        else
          if D 2 1 ≤ 0 then
            some (0, D)
          else
            some (1, D)
      else
        td_b (F_X5_goOnceFrom v4 D) fun r1 D2 =>
        td_l (td_upd D2 29 3 (tv_w ((D2 29 3) + 1))) fun D3 =>
        F_X5_plan_96 n r1 (tv_w (v5 + 1)) D3
set_option maxHeartbeats 4000000 in
set_option maxRecDepth 20000 in
theorem S_X5_plan_96 {l : Launch} {E : tv_E} (hE : tv_hE E) (d : Nat) : ∀ (n : Nat) (v4 : Int) (v5 : Int) (D : td_D), td_sim l E (d + 3) mX5_plan g_c 96 [tv_R 29, tv_R 2, tv_U, tv_U, tv_I v4, tv_I v5] [] D (F_X5_plan_96 n v4 v5 D) := by
  intro n
  induction n with
  | zero => intros; exact tv_none
  | succ n ih =>
    intro v4 v5 D
    show td_sim _ _ _ _ _ _ _ _ _ (F_X5_plan_96 (n + 1) v4 v5 D)
    unfold F_X5_plan_96
    refine ts_iload rfl dX5_plan_96 ?_
    refine ts_bipush rfl dX5_plan_98 ?_
    refine td_icmp_ge (tgt := 137) rfl dX5_plan_100 ?_ ?_
    · refine ts_aload_n (i := 0) rfl rfl dX5_plan_137 ?_
      refine td_getI tl_X5_22 rfl ga_c_29 rfl dX5_plan_138 ?_
      refine td_if_eq (tgt := 151) rfl dX5_plan_141 ?_ ?_
      · refine ts_iconst rfl dX5_plan_151 ?_
        refine ts_goto (tgt := 156) rfl dX5_plan_152 ?_
        exact td_zretK (Or.inr rfl) rfl dX5_plan_156
      · refine ts_aload_n (i := 1) rfl rfl dX5_plan_144 ?_
        refine td_getI tl_X5_66 rfl ga_c_2 rfl dX5_plan_145 ?_
        refine td_if_le (tgt := 155) rfl dX5_plan_148 ?_ ?_
        · refine ts_iconst rfl dX5_plan_155 ?_
          exact td_zretK (Or.inl rfl) rfl dX5_plan_156
        · refine ts_iconst rfl dX5_plan_151 ?_
          refine ts_goto (tgt := 156) rfl dX5_plan_152 ?_
          exact td_zretK (Or.inr rfl) rfl dX5_plan_156
    · refine ts_iload rfl dX5_plan_103 ?_
      refine ts_aload_n (i := 0) rfl rfl dX5_plan_105 ?_
      refine td_getI tl_X5_18 rfl ga_c_29 rfl dX5_plan_106 ?_
      refine td_icmp_ge (tgt := 137) rfl dX5_plan_109 ?_ ?_
      · refine ts_aload_n (i := 0) rfl rfl dX5_plan_137 ?_
        refine td_getI tl_X5_22 rfl ga_c_29 rfl dX5_plan_138 ?_
        refine td_if_eq (tgt := 151) rfl dX5_plan_141 ?_ ?_
        · refine ts_iconst rfl dX5_plan_151 ?_
          refine ts_goto (tgt := 156) rfl dX5_plan_152 ?_
          exact td_zretK (Or.inr rfl) rfl dX5_plan_156
        · refine ts_aload_n (i := 1) rfl rfl dX5_plan_144 ?_
          refine td_getI tl_X5_66 rfl ga_c_2 rfl dX5_plan_145 ?_
          refine td_if_le (tgt := 155) rfl dX5_plan_148 ?_ ?_
          · refine ts_iconst rfl dX5_plan_155 ?_
            exact td_zretK (Or.inl rfl) rfl dX5_plan_156
          · refine ts_iconst rfl dX5_plan_151 ?_
            refine ts_goto (tgt := 156) rfl dX5_plan_152 ?_
            exact td_zretK (Or.inr rfl) rfl dX5_plan_156
      · refine ts_aload_n (i := 0) rfl rfl dX5_plan_112 ?_
        refine ts_aload_n (i := 1) rfl rfl dX5_plan_113 ?_
        refine ts_iload rfl dX5_plan_114 ?_
        refine tq_callV (y2 := mX5_goOnceFrom) [tv_R 2, tv_I v4] [] 29 (st' := fun r1 => [tv_I r1]) tw_X5_goOnceFrom tx_X5_goOnceFrom tw_c5 ga_c_29 tl_X5_62 rfl rfl rfl rfl (fun _ => rfl) dX5_plan_116 (S_X5_goOnceFrom l hE _ v4 D) (fun r1 D2 => ?_)
        refine tq_istore [tv_R 29, tv_R 2, tv_U, tv_U, tv_I r1, tv_I v5] (Nat.le_of_ble_eq_true rfl) rfl rfl dX5_plan_119 ?_
        refine ts_aload_n (i := 0) rfl rfl dX5_plan_121 ?_
        refine ts_dupR dX5_plan_122 ?_
        refine td_getI tl_X5_22 rfl ga_c_29 rfl dX5_plan_123 ?_
        refine ts_iconst rfl dX5_plan_126 ?_
        refine ts_iadd dX5_plan_127 ?_
        refine td_putI tf_X5_22 (by intro h; cases h) rfl ga_c_29 rfl dX5_plan_128 ?_
        refine td_let (fun D3 => ?_)
        refine tq_iinc [tv_R 29, tv_R 2, tv_U, tv_U, tv_I r1, tv_I (tv_w (v5 + 1))] rfl rfl rfl dX5_plan_131 ?_
        refine ts_goto (tgt := 96) rfl dX5_plan_134 ?_
        exact ih r1 (tv_w (v5 + 1)) D3
def F_X5_plan_37 : Nat → Int → Int → Int → td_D → Option (Int × td_D)
  | 0, _, _, _, _ => none
  | n + 1, v3, v4, v5, D =>
    if D 29 2 ≤ v5 then
      td_l (td_upd D 29 3 0) fun D4 =>
      F_X5_plan_96 tf_N v4 0 D4
    else
      if 0 ≤ v5 ∧ v5 < ((20 : Nat) : Int) then
        if 0 ≤ v3 ∧ v3 < ((6 : Nat) : Int) then
          td_b (F_X3_mayDo (D 30 (Int.toNat v5)) (D 3 (Int.toNat v3)) D) fun r7 D8 =>
          if r7 = 0 then
            td_l (td_upd D8 29 3 0) fun D9 =>
            F_X5_plan_96 tf_N v4 0 D9
          else
            td_l (td_upd D8 31 (Int.toNat v5) (D8 3 (Int.toNat v3))) fun D10 =>
            F_X5_plan_37 n v3 (tv_w (v4 + 1)) (tv_w (v5 + 1)) D10
        else none
      else none
set_option maxHeartbeats 4000000 in
set_option maxRecDepth 20000 in
theorem S_X5_plan_37 {l : Launch} {E : tv_E} (hE : tv_hE E) (d : Nat) : ∀ (n : Nat) (v3 : Int) (v4 : Int) (v5 : Int) (D : td_D), td_sim l E (d + 3) mX5_plan g_c 37 [tv_R 29, tv_R 2, tv_U, tv_I v3, tv_I v4, tv_I v5] [] D (F_X5_plan_37 n v3 v4 v5 D) := by
  intro n
  induction n with
  | zero => intros; exact tv_none
  | succ n ih =>
    intro v3 v4 v5 D
    show td_sim _ _ _ _ _ _ _ _ _ (F_X5_plan_37 (n + 1) v3 v4 v5 D)
    unfold F_X5_plan_37
    refine ts_iload rfl dX5_plan_37 ?_
    refine ts_aload_n (i := 0) rfl rfl dX5_plan_39 ?_
    refine td_getI tl_X5_18 rfl ga_c_29 rfl dX5_plan_40 ?_
    refine td_icmp_ge (tgt := 88) rfl dX5_plan_43 ?_ ?_
    · refine ts_aload_n (i := 0) rfl rfl dX5_plan_88 ?_
      refine ts_iconst rfl dX5_plan_89 ?_
      refine td_putI tf_X5_22 (by intro h; cases h) rfl ga_c_29 rfl dX5_plan_90 ?_
      refine td_let (fun D4 => ?_)
      refine ts_iconst rfl dX5_plan_93 ?_
      refine tq_istore [tv_R 29, tv_R 2, tv_U, tv_I v3, tv_I v4, tv_I 0] (Nat.le_of_ble_eq_true rfl) rfl rfl dX5_plan_94 ?_
      refine tv_weak (ls' := [tv_R 29, tv_R 2, tv_U, tv_U, tv_I v4, tv_I 0]) ⟨Or.inr rfl, Or.inr rfl, Or.inl rfl, Or.inl rfl, Or.inr rfl, Or.inr rfl, trivial⟩ ?_
      exact S_X5_plan_96 hE d tf_N v4 0 D4
    · refine ts_aload_n (i := 1) rfl rfl dX5_plan_46 ?_
      refine ts_aload_n (i := 0) rfl rfl dX5_plan_47 ?_
      refine td_getR (q := 30) tl_X5_9 rfl ga_c_29 rfl dX5_plan_48 ?_
      refine ts_iload rfl dX5_plan_51 ?_
      refine td_guard (fun h5 => ?_)
      refine td_ialdK ga_c_30 (gn_c_30 _) h5 dX5_plan_53 ?_
      refine ts_aload_n (i := 1) rfl rfl dX5_plan_54 ?_
      refine td_getR (q := 3) tl_X5_41 rfl ga_c_2 rfl dX5_plan_55 ?_
      refine ts_iload_n (i := 3) rfl rfl dX5_plan_58 ?_
      refine td_guard (fun h6 => ?_)
      refine td_ialdK ga_c_3 (gn_c_3 _) h6 dX5_plan_59 ?_
      refine tq_callV (y2 := mX3_mayDo) [tv_I (D 30 (Int.toNat v5)), tv_I (D 3 (Int.toNat v3))] [] 2 (st' := fun r7 => [tv_I r7]) tw_X3_mayDo tx_X3_mayDo tw_c3 ga_c_2 tl_X5_42 rfl rfl rfl rfl (fun _ => rfl) dX5_plan_60 (S_X3_mayDo l hE _ (D 30 (Int.toNat v5)) (D 3 (Int.toNat v3)) D) (fun r7 D8 => ?_)
      refine td_if_eq (tgt := 88) rfl dX5_plan_63 ?_ ?_
      · refine ts_aload_n (i := 0) rfl rfl dX5_plan_88 ?_
        refine ts_iconst rfl dX5_plan_89 ?_
        refine td_putI tf_X5_22 (by intro h; cases h) rfl ga_c_29 rfl dX5_plan_90 ?_
        refine td_let (fun D9 => ?_)
        refine ts_iconst rfl dX5_plan_93 ?_
        refine tq_istore [tv_R 29, tv_R 2, tv_U, tv_I v3, tv_I v4, tv_I 0] (Nat.le_of_ble_eq_true rfl) rfl rfl dX5_plan_94 ?_
        refine tv_weak (ls' := [tv_R 29, tv_R 2, tv_U, tv_U, tv_I v4, tv_I 0]) ⟨Or.inr rfl, Or.inr rfl, Or.inl rfl, Or.inl rfl, Or.inr rfl, Or.inr rfl, trivial⟩ ?_
        exact S_X5_plan_96 hE d tf_N v4 0 D9
      · refine ts_aload_n (i := 0) rfl rfl dX5_plan_66 ?_
        refine td_getR (q := 31) tl_X5_15 rfl ga_c_29 rfl dX5_plan_67 ?_
        refine ts_iload rfl dX5_plan_70 ?_
        refine ts_aload_n (i := 1) rfl rfl dX5_plan_72 ?_
        refine td_getR (q := 3) tl_X5_41 rfl ga_c_2 rfl dX5_plan_73 ?_
        refine ts_iload_n (i := 3) rfl rfl dX5_plan_76 ?_
        refine td_ialdK ga_c_3 (gn_c_3 _) h6 dX5_plan_77 ?_
        refine td_iastK ga_c_31 (gn_c_31 _) h5 dX5_plan_78 ?_
        refine td_let (fun D10 => ?_)
        refine tq_iinc [tv_R 29, tv_R 2, tv_U, tv_I v3, tv_I (tv_w (v4 + 1)), tv_I v5] rfl rfl rfl dX5_plan_79 ?_
        refine tq_iinc [tv_R 29, tv_R 2, tv_U, tv_I v3, tv_I (tv_w (v4 + 1)), tv_I (tv_w (v5 + 1))] rfl rfl rfl dX5_plan_82 ?_
        refine ts_goto (tgt := 37) rfl dX5_plan_85 ?_
        exact ih v3 (tv_w (v4 + 1)) (tv_w (v5 + 1)) D10
def F_X5_plan (p2 : Nat) (a3 : Int) (D : td_D) : Option (Int × td_D) :=
  td_b (F_X5_read p2 D) fun _ D12 =>
  if 0 ≤ a3 ∧ a3 < ((6 : Nat) : Int) then
    td_b (F_X7_allOf 5 a3 D12) fun r14 D15 =>
    td_b (F_X5_needsMoreThan (tv_w ((D12 3 (Int.toNat a3)) + r14)) D15) fun r16 D17 =>
    if r16 = 0 then
      F_X5_plan_37 tf_N a3 0 0 D17
    else
      some (0, D17)
  else none
set_option maxHeartbeats 4000000 in
set_option maxRecDepth 20000 in
theorem S_X5_plan (l : Launch) {E : tv_E} (hE : tv_hE E) (d : Nat) (p2 : Nat) (a3 : Int) (hp2 : tv_isShelf p2) (D : td_D) : td_msim l E (d + 3) mX5_plan g_c [tv_R 29, tv_R 2, tv_R p2, tv_I a3] D (F_X5_plan p2 a3 D) := by
  refine td_meetL (ls := [tv_R 29, tv_R 2, tv_R p2, tv_I a3, tv_U, tv_U]) rfl (Nat.le_of_ble_eq_true rfl) rfl ?_
  unfold F_X5_plan
  refine ts_aload_n (i := 0) rfl rfl dX5_plan_0 ?_
  refine ts_aload_n (i := 1) rfl rfl dX5_plan_1 ?_
  refine ts_aload_n (i := 2) rfl rfl dX5_plan_2 ?_
  refine tq_callV (y2 := mX5_read) [tv_R 2, tv_R p2] [] 29 (st' := fun _ => []) tw_X5_read tx_X5_read tw_c5 ga_c_29 tl_X5_37 rfl rfl rfl rfl (fun _ => rfl) dX5_plan_3 (S_X5_read l hE _ p2 hp2 D) (fun r11 D12 => ?_)
  refine ts_aload_n (i := 0) rfl rfl dX5_plan_6 ?_
  refine ts_aload_n (i := 1) rfl rfl dX5_plan_7 ?_
  refine ts_aload_n (i := 1) rfl rfl dX5_plan_8 ?_
  refine td_getR (q := 3) tl_X5_41 rfl ga_c_2 rfl dX5_plan_9 ?_
  refine ts_iload_n (i := 3) rfl rfl dX5_plan_12 ?_
  refine td_guard (fun h13 => ?_)
  refine td_ialdK ga_c_3 (gn_c_3 _) h13 dX5_plan_13 ?_
  refine ts_aload_n (i := 1) rfl rfl dX5_plan_14 ?_
  refine td_getR (q := 5) tl_X5_49 rfl ga_c_2 rfl dX5_plan_15 ?_
  refine ts_iload_n (i := 3) rfl rfl dX5_plan_18 ?_
  refine tq_callV (y2 := mX7_allOf) [tv_I a3] [tv_I (D12 3 (Int.toNat a3)), tv_R 2, tv_R 29] 5 (st' := fun r14 => [tv_I r14, tv_I (D12 3 (Int.toNat a3)), tv_R 2, tv_R 29]) tw_X7_allOf tx_X7_allOf tw_c7 ga_c_5 tl_X5_53 rfl rfl rfl rfl (fun _ => rfl) dX5_plan_19 (S_X7_allOf l hE _ 5 a3 is_stock_5 D12) (fun r14 D15 => ?_)
  refine ts_iadd dX5_plan_22 ?_
  refine tq_callV (y2 := mX5_needsMoreThan) [tv_R 2, tv_I (tv_w ((D12 3 (Int.toNat a3)) + r14))] [] 29 (st' := fun r16 => [tv_I r16]) tw_X5_needsMoreThan tx_X5_needsMoreThan tw_c5 ga_c_29 tl_X5_58 rfl rfl rfl rfl (fun _ => rfl) dX5_plan_23 (S_X5_needsMoreThan l hE _ (tv_w ((D12 3 (Int.toNat a3)) + r14)) D15) (fun r16 D17 => ?_)
  refine td_if_eq (tgt := 31) rfl dX5_plan_26 ?_ ?_
  · refine ts_iconst rfl dX5_plan_31 ?_
    refine tq_istore [tv_R 29, tv_R 2, tv_R p2, tv_I a3, tv_I 0, tv_U] (Nat.le_of_ble_eq_true rfl) rfl rfl dX5_plan_32 ?_
    refine ts_iconst rfl dX5_plan_34 ?_
    refine tq_istore [tv_R 29, tv_R 2, tv_R p2, tv_I a3, tv_I 0, tv_I 0] (Nat.le_of_ble_eq_true rfl) rfl rfl dX5_plan_35 ?_
    refine tv_weak (ls' := [tv_R 29, tv_R 2, tv_U, tv_I a3, tv_I 0, tv_I 0]) ⟨Or.inr rfl, Or.inr rfl, Or.inl rfl, Or.inr rfl, Or.inr rfl, Or.inr rfl, trivial⟩ ?_
    exact S_X5_plan_37 hE d tf_N a3 0 0 D17
  · refine ts_iconst rfl dX5_plan_29 ?_
    exact td_zretK (Or.inl rfl) rfl dX5_plan_30
def F_X6_clear_12 : Nat → Nat → Int → Int → td_D → Option (Int × td_D)
  | 0, _, _, _, _ => none
  | n + 1, v0, v2, v3, D =>
    if v2 ≤ v3 then
      some (0, D)
    else
      if 0 ≤ v3 ∧ v3 < ((60 : Nat) : Int) then
        td_l (td_upd D (td_r g_c v0 3) (Int.toNat v3) 0) fun D2 =>
        F_X6_clear_12 n v0 v2 (tv_w (v3 + 1)) D2
      else none
set_option maxHeartbeats 4000000 in
set_option maxRecDepth 20000 in
theorem S_X6_clear_12 {l : Launch} {E : tv_E} (hE : tv_hE E) (d : Nat) : ∀ (n : Nat) (v0 : Nat) (v2 : Int) (v3 : Int) (D : td_D), tv_isShelf v0 → td_sim l E (d + 0) mX6_clear g_c 12 [tv_R v0, tv_U, tv_I v2, tv_I v3] [] D (F_X6_clear_12 n v0 v2 v3 D) := by
  intro n
  induction n with
  | zero => intros; exact tv_none
  | succ n ih =>
    intro v0 v2 v3 D hv0
    show td_sim _ _ _ _ _ _ _ _ _ (F_X6_clear_12 (n + 1) v0 v2 v3 D)
    unfold F_X6_clear_12
    refine ts_iload_n (i := 3) rfl rfl dX6_clear_12 ?_
    refine ts_iload_n (i := 2) rfl rfl dX6_clear_13 ?_
    refine td_icmp_ge (tgt := 30) rfl dX6_clear_14 ?_ ?_
    · exact td_vret rfl dX6_clear_30
    · refine ts_aload_n (i := 0) rfl rfl dX6_clear_17 ?_
      refine td_getR (q := td_r g_c v0 3) tl_X6_21 rfl hv0.1 hv0.2.1.1 dX6_clear_18 ?_
      refine ts_iload_n (i := 3) rfl rfl dX6_clear_21 ?_
      refine ts_lconst dX6_clear_22 ?_
      refine td_guard (fun h1 => ?_)
      refine td_lastK hv0.2.1.2.1 (hv0.2.1.2.2 _) h1 dX6_clear_23 ?_
      refine td_let (fun D2 => ?_)
      refine tq_iinc [tv_R v0, tv_U, tv_I v2, tv_I (tv_w (v3 + 1))] rfl rfl rfl dX6_clear_24 ?_
      refine ts_goto (tgt := 12) rfl dX6_clear_27 ?_
      exact ih v0 v2 (tv_w (v3 + 1)) D2 hv0
def F_X6_clear (p0 : Nat) (a1 : Int) (a2 : Int) (D : td_D) : Option (Int × td_D) :=
  td_l (td_upd D p0 0 a1) fun D3 =>
  td_l (td_upd D3 p0 2 a2) fun D4 =>
  F_X6_clear_12 tf_N p0 a2 0 D4
set_option maxHeartbeats 4000000 in
set_option maxRecDepth 20000 in
theorem S_X6_clear (l : Launch) {E : tv_E} (hE : tv_hE E) (d : Nat) (p0 : Nat) (a1 : Int) (a2 : Int) (hp0 : tv_isShelf p0) (D : td_D) : td_msim l E (d + 0) mX6_clear g_c [tv_R p0, tv_I a1, tv_I a2] D (F_X6_clear p0 a1 a2 D) := by
  refine td_meetL (ls := [tv_R p0, tv_I a1, tv_I a2, tv_U]) rfl (Nat.le_of_ble_eq_true rfl) rfl ?_
  unfold F_X6_clear
  refine ts_aload_n (i := 0) rfl rfl dX6_clear_0 ?_
  refine ts_iload_n (i := 1) rfl rfl dX6_clear_1 ?_
  refine td_putI tf_X6_9 (by intro h; cases h) rfl hp0.1 hp0.2.2.1 dX6_clear_2 ?_
  refine td_let (fun D3 => ?_)
  refine ts_aload_n (i := 0) rfl rfl dX6_clear_5 ?_
  refine ts_iload_n (i := 2) rfl rfl dX6_clear_6 ?_
  refine td_putI tf_X6_18 (by intro h; cases h) rfl hp0.1 hp0.2.2.2.2 dX6_clear_7 ?_
  refine td_let (fun D4 => ?_)
  refine ts_iconst rfl dX6_clear_10 ?_
  refine tq_istore_n [tv_R p0, tv_I a1, tv_I a2, tv_I 0] rfl (Nat.le_of_ble_eq_true rfl) rfl rfl dX6_clear_11 ?_
  refine tv_weak (ls' := [tv_R p0, tv_U, tv_I a2, tv_I 0]) ⟨Or.inr rfl, Or.inl rfl, Or.inr rfl, Or.inr rfl, trivial⟩ ?_
  exact S_X6_clear_12 hE d tf_N p0 a2 0 D4 hp0
def F_X7_allInAll_4 : Nat → Nat → Int → Int → td_D → Option (Int × td_D)
  | 0, _, _, _, _ => none
  | n + 1, v0, v1, v2, D =>
    if 5 ≤ v2 then
      some (v1, D)
    else
      td_b (F_X7_allIn v0 v2 D) fun r1 D2 =>
      F_X7_allInAll_4 n v0 (tv_w (v1 + r1)) (tv_w (v2 + 1)) D2
set_option maxHeartbeats 4000000 in
set_option maxRecDepth 20000 in
theorem S_X7_allInAll_4 {l : Launch} {E : tv_E} (hE : tv_hE E) (d : Nat) : ∀ (n : Nat) (v0 : Nat) (v1 : Int) (v2 : Int) (D : td_D), tv_isStock v0 → td_sim l E (d + 2) mX7_allInAll g_c 4 [tv_R v0, tv_I v1, tv_I v2] [] D (F_X7_allInAll_4 n v0 v1 v2 D) := by
  intro n
  induction n with
  | zero => intros; exact tv_none
  | succ n ih =>
    intro v0 v1 v2 D hv0
    show td_sim _ _ _ _ _ _ _ _ _ (F_X7_allInAll_4 (n + 1) v0 v1 v2 D)
    unfold F_X7_allInAll_4
    refine ts_iload_n (i := 2) rfl rfl dX7_allInAll_4 ?_
    refine ts_iconst rfl dX7_allInAll_5 ?_
    refine td_icmp_ge (tgt := 23) rfl dX7_allInAll_6 ?_ ?_
    · refine ts_iload_n (i := 1) rfl rfl dX7_allInAll_23 ?_
      exact td_iret rfl dX7_allInAll_24
    · refine ts_iload_n (i := 1) rfl rfl dX7_allInAll_9 ?_
      refine ts_aload_n (i := 0) rfl rfl dX7_allInAll_10 ?_
      refine ts_iload_n (i := 2) rfl rfl dX7_allInAll_11 ?_
      refine tq_callV (y2 := mX7_allIn) [tv_I v2] [tv_I v1] v0 (st' := fun r1 => [tv_I r1, tv_I v1]) tw_X7_allIn tx_X7_allIn tw_c7 hv0.1 tl_X7_19 rfl rfl rfl rfl (fun _ => rfl) dX7_allInAll_12 (S_X7_allIn l hE _ v0 v2 hv0 D) (fun r1 D2 => ?_)
      refine ts_iadd dX7_allInAll_15 ?_
      refine tq_istore_n [tv_R v0, tv_I (tv_w (v1 + r1)), tv_I v2] rfl (Nat.le_of_ble_eq_true rfl) rfl rfl dX7_allInAll_16 ?_
      refine tq_iinc [tv_R v0, tv_I (tv_w (v1 + r1)), tv_I (tv_w (v2 + 1))] rfl rfl rfl dX7_allInAll_17 ?_
      refine ts_goto (tgt := 4) rfl dX7_allInAll_20 ?_
      exact ih v0 (tv_w (v1 + r1)) (tv_w (v2 + 1)) D2 hv0
def F_X7_allInAll (p0 : Nat) (D : td_D) : Option (Int × td_D) :=
  F_X7_allInAll_4 tf_N p0 0 0 D
set_option maxHeartbeats 4000000 in
set_option maxRecDepth 20000 in
theorem S_X7_allInAll (l : Launch) {E : tv_E} (hE : tv_hE E) (d : Nat) (p0 : Nat) (hp0 : tv_isStock p0) (D : td_D) : td_msim l E (d + 2) mX7_allInAll g_c [tv_R p0] D (F_X7_allInAll p0 D) := by
  refine td_meetL (ls := [tv_R p0, tv_U, tv_U]) rfl (Nat.le_of_ble_eq_true rfl) rfl ?_
  unfold F_X7_allInAll
  refine ts_iconst rfl dX7_allInAll_0 ?_
  refine tq_istore_n [tv_R p0, tv_I 0, tv_U] rfl (Nat.le_of_ble_eq_true rfl) rfl rfl dX7_allInAll_1 ?_
  refine ts_iconst rfl dX7_allInAll_2 ?_
  refine tq_istore_n [tv_R p0, tv_I 0, tv_I 0] rfl (Nat.le_of_ble_eq_true rfl) rfl rfl dX7_allInAll_3 ?_
  exact S_X7_allInAll_4 hE d tf_N p0 0 0 D hp0
def F_X7_holders_4 : Nat → Nat → Int → Int → Int → td_D → Option (Int × td_D)
  | 0, _, _, _, _, _ => none
  | n + 1, v0, v1, v2, v3, D =>
    if 6 ≤ v3 then
      some (v2, D)
    else
      td_b (F_X7_share v0 v1 v3 D) fun r1 D2 =>
      if r1 ≤ 0 then
        F_X7_holders_4 n v0 v1 (tv_w (v2 + 0)) (tv_w (v3 + 1)) D2
      else
        F_X7_holders_4 n v0 v1 (tv_w (v2 + 1)) (tv_w (v3 + 1)) D2
set_option maxHeartbeats 4000000 in
set_option maxRecDepth 20000 in
theorem S_X7_holders_4 {l : Launch} {E : tv_E} (hE : tv_hE E) (d : Nat) : ∀ (n : Nat) (v0 : Nat) (v1 : Int) (v2 : Int) (v3 : Int) (D : td_D), tv_isStock v0 → td_sim l E (d + 1) mX7_holders g_c 4 [tv_R v0, tv_I v1, tv_I v2, tv_I v3] [] D (F_X7_holders_4 n v0 v1 v2 v3 D) := by
  intro n
  induction n with
  | zero => intros; exact tv_none
  | succ n ih =>
    intro v0 v1 v2 v3 D hv0
    show td_sim _ _ _ _ _ _ _ _ _ (F_X7_holders_4 (n + 1) v0 v1 v2 v3 D)
    unfold F_X7_holders_4
    refine ts_iload_n (i := 3) rfl rfl dX7_holders_4 ?_
    refine ts_bipush rfl dX7_holders_5 ?_
    refine td_icmp_ge (tgt := 33) rfl dX7_holders_7 ?_ ?_
    · refine ts_iload_n (i := 2) rfl rfl dX7_holders_33 ?_
      exact td_iret rfl dX7_holders_34
    · refine ts_iload_n (i := 2) rfl rfl dX7_holders_10 ?_
      refine ts_aload_n (i := 0) rfl rfl dX7_holders_11 ?_
      refine ts_iload_n (i := 1) rfl rfl dX7_holders_12 ?_
      refine ts_iload_n (i := 3) rfl rfl dX7_holders_13 ?_
      refine tq_callV (y2 := mX7_share) [tv_I v1, tv_I v3] [tv_I v2] v0 (st' := fun r1 => [tv_I r1, tv_I v2]) tw_X7_share tx_X7_share tw_c7 hv0.1 tl_X7_15 rfl rfl rfl rfl (fun _ => rfl) dX7_holders_14 (S_X7_share l hE _ v0 v1 v3 hv0 D) (fun r1 D2 => ?_)
      refine td_if_le (tgt := 24) rfl dX7_holders_17 ?_ ?_
      · refine ts_iconst rfl dX7_holders_24 ?_
        refine ts_iadd dX7_holders_25 ?_
        refine tq_istore_n [tv_R v0, tv_I v1, tv_I (tv_w (v2 + 0)), tv_I v3] rfl (Nat.le_of_ble_eq_true rfl) rfl rfl dX7_holders_26 ?_
        refine tq_iinc [tv_R v0, tv_I v1, tv_I (tv_w (v2 + 0)), tv_I (tv_w (v3 + 1))] rfl rfl rfl dX7_holders_27 ?_
        refine ts_goto (tgt := 4) rfl dX7_holders_30 ?_
        exact ih v0 v1 (tv_w (v2 + 0)) (tv_w (v3 + 1)) D2 hv0
      · refine ts_iconst rfl dX7_holders_20 ?_
        refine ts_goto (tgt := 25) rfl dX7_holders_21 ?_
        refine ts_iadd dX7_holders_25 ?_
        refine tq_istore_n [tv_R v0, tv_I v1, tv_I (tv_w (v2 + 1)), tv_I v3] rfl (Nat.le_of_ble_eq_true rfl) rfl rfl dX7_holders_26 ?_
        refine tq_iinc [tv_R v0, tv_I v1, tv_I (tv_w (v2 + 1)), tv_I (tv_w (v3 + 1))] rfl rfl rfl dX7_holders_27 ?_
        refine ts_goto (tgt := 4) rfl dX7_holders_30 ?_
        exact ih v0 v1 (tv_w (v2 + 1)) (tv_w (v3 + 1)) D2 hv0
def F_X7_holders (p0 : Nat) (a1 : Int) (D : td_D) : Option (Int × td_D) :=
  F_X7_holders_4 tf_N p0 a1 0 0 D
set_option maxHeartbeats 4000000 in
set_option maxRecDepth 20000 in
theorem S_X7_holders (l : Launch) {E : tv_E} (hE : tv_hE E) (d : Nat) (p0 : Nat) (a1 : Int) (hp0 : tv_isStock p0) (D : td_D) : td_msim l E (d + 1) mX7_holders g_c [tv_R p0, tv_I a1] D (F_X7_holders p0 a1 D) := by
  refine td_meetL (ls := [tv_R p0, tv_I a1, tv_U, tv_U]) rfl (Nat.le_of_ble_eq_true rfl) rfl ?_
  unfold F_X7_holders
  refine ts_iconst rfl dX7_holders_0 ?_
  refine tq_istore_n [tv_R p0, tv_I a1, tv_I 0, tv_U] rfl (Nat.le_of_ble_eq_true rfl) rfl rfl dX7_holders_1 ?_
  refine ts_iconst rfl dX7_holders_2 ?_
  refine tq_istore_n [tv_R p0, tv_I a1, tv_I 0, tv_I 0] rfl (Nat.le_of_ble_eq_true rfl) rfl rfl dX7_holders_3 ?_
  exact S_X7_holders_4 hE d tf_N p0 a1 0 0 D hp0
def F_X8_add (a1 : Int) (D : td_D) : Option (Int × td_D) :=
  if 0 ≤ D 43 1 ∧ D 43 1 < ((50 : Nat) : Int) then
    td_l (td_upd D 44 (Int.toNat (D 43 1)) a1) fun D2 =>
    td_l (td_upd D2 43 1 (tv_w ((D2 43 1) + 1))) fun D3 =>
    some (tv_w ((D3 43 1) - 1), D3)
  else none
set_option maxHeartbeats 4000000 in
set_option maxRecDepth 20000 in
theorem S_X8_add (l : Launch) {E : tv_E} (hE : tv_hE E) (d : Nat) (a1 : Int) (D : td_D) : td_msim l E (d + 0) mX8_add g_c [tv_R 43, tv_I a1] D (F_X8_add a1 D) := by
  refine td_meetL (ls := [tv_R 43, tv_I a1]) rfl (Nat.le_of_ble_eq_true rfl) rfl ?_
  unfold F_X8_add
  refine ts_aload_n (i := 0) rfl rfl dX8_add_0 ?_
  refine td_getR (q := 44) tl_X8_9 rfl ga_c_43 rfl dX8_add_1 ?_
  refine ts_aload_n (i := 0) rfl rfl dX8_add_4 ?_
  refine td_getI tl_X8_15 rfl ga_c_43 rfl dX8_add_5 ?_
  refine ts_iload_n (i := 1) rfl rfl dX8_add_8 ?_
  refine td_guard (fun h1 => ?_)
  refine td_iastK ga_c_44 (gn_c_44 _) h1 dX8_add_9 ?_
  refine td_let (fun D2 => ?_)
  refine ts_aload_n (i := 0) rfl rfl dX8_add_10 ?_
  refine ts_dupR dX8_add_11 ?_
  refine td_getI tl_X8_15 rfl ga_c_43 rfl dX8_add_12 ?_
  refine ts_iconst rfl dX8_add_15 ?_
  refine ts_iadd dX8_add_16 ?_
  refine td_putI tf_X8_15 (by intro h; cases h) rfl ga_c_43 rfl dX8_add_17 ?_
  refine td_let (fun D3 => ?_)
  refine ts_aload_n (i := 0) rfl rfl dX8_add_20 ?_
  refine td_getI tl_X8_15 rfl ga_c_43 rfl dX8_add_21 ?_
  refine ts_iconst rfl dX8_add_24 ?_
  refine ts_isub dX8_add_25 ?_
  exact td_iret rfl dX8_add_26
def F_X8_isBody (a1 : Int) (D : td_D) : Option (Int × td_D) :=
  if a1 < 0 then
    some (0, D)
  else
    if D 43 1 ≤ a1 then
      some (0, D)
    else
      some (1, D)
set_option maxHeartbeats 4000000 in
set_option maxRecDepth 20000 in
theorem S_X8_isBody (l : Launch) {E : tv_E} (hE : tv_hE E) (d : Nat) (a1 : Int) (D : td_D) : td_msim l E (d + 0) mX8_isBody g_c [tv_R 43, tv_I a1] D (F_X8_isBody a1 D) := by
  refine td_meetL (ls := [tv_R 43, tv_I a1]) rfl (Nat.le_of_ble_eq_true rfl) rfl ?_
  unfold F_X8_isBody
  refine ts_iload_n (i := 1) rfl rfl dX8_isBody_0 ?_
  refine td_if_lt (tgt := 16) rfl dX8_isBody_1 ?_ ?_
  · refine ts_iconst rfl dX8_isBody_16 ?_
    exact td_zretK (Or.inl rfl) rfl dX8_isBody_17
  · refine ts_iload_n (i := 1) rfl rfl dX8_isBody_4 ?_
    refine ts_aload_n (i := 0) rfl rfl dX8_isBody_5 ?_
    refine td_getI tl_X8_15 rfl ga_c_43 rfl dX8_isBody_6 ?_
    refine td_icmp_ge (tgt := 16) rfl dX8_isBody_9 ?_ ?_
    · refine ts_iconst rfl dX8_isBody_16 ?_
      exact td_zretK (Or.inl rfl) rfl dX8_isBody_17
    · refine ts_iconst rfl dX8_isBody_12 ?_
      refine ts_goto (tgt := 17) rfl dX8_isBody_13 ?_
      exact td_zretK (Or.inr rfl) rfl dX8_isBody_17
def F_X9_add (a1 : Int) (D : td_D) : Option (Int × td_D) :=
  if 0 ≤ D 10 1 ∧ D 10 1 < ((120 : Nat) : Int) then
    td_l (td_upd D 11 (Int.toNat (D 10 1)) a1) fun D2 =>
    td_l (td_upd D2 10 1 (tv_w ((D2 10 1) + 1))) fun D3 =>
    some (D3 10 1, D3)
  else none
set_option maxHeartbeats 4000000 in
set_option maxRecDepth 20000 in
theorem S_X9_add (l : Launch) {E : tv_E} (hE : tv_hE E) (d : Nat) (a1 : Int) (D : td_D) : td_msim l E (d + 0) mX9_add g_c [tv_R 10, tv_I a1] D (F_X9_add a1 D) := by
  refine td_meetL (ls := [tv_R 10, tv_I a1]) rfl (Nat.le_of_ble_eq_true rfl) rfl ?_
  unfold F_X9_add
  refine ts_aload_n (i := 0) rfl rfl dX9_add_0 ?_
  refine td_getR (q := 11) tl_X9_9 rfl ga_c_10 rfl dX9_add_1 ?_
  refine ts_aload_n (i := 0) rfl rfl dX9_add_4 ?_
  refine td_getI tl_X9_15 rfl ga_c_10 rfl dX9_add_5 ?_
  refine ts_iload_n (i := 1) rfl rfl dX9_add_8 ?_
  refine td_guard (fun h1 => ?_)
  refine td_iastK ga_c_11 (gn_c_11 _) h1 dX9_add_9 ?_
  refine td_let (fun D2 => ?_)
  refine ts_aload_n (i := 0) rfl rfl dX9_add_10 ?_
  refine ts_dupR dX9_add_11 ?_
  refine td_getI tl_X9_15 rfl ga_c_10 rfl dX9_add_12 ?_
  refine ts_iconst rfl dX9_add_15 ?_
  refine ts_iadd dX9_add_16 ?_
  refine td_putI tf_X9_15 (by intro h; cases h) rfl ga_c_10 rfl dX9_add_17 ?_
  refine td_let (fun D3 => ?_)
  refine ts_aload_n (i := 0) rfl rfl dX9_add_20 ?_
  refine td_getI tl_X9_15 rfl ga_c_10 rfl dX9_add_21 ?_
  exact td_iret rfl dX9_add_24
def F_X9_sign (D : td_D) : Option (Int × td_D) :=
  if D 10 1 ≤ D 10 2 then
    some ((-1), D)
  else
    if 0 ≤ D 10 2 ∧ D 10 2 < ((120 : Nat) : Int) then
      some (D 11 (Int.toNat (D 10 2)), D)
    else none
set_option maxHeartbeats 4000000 in
set_option maxRecDepth 20000 in
theorem S_X9_sign (l : Launch) {E : tv_E} (hE : tv_hE E) (d : Nat) (D : td_D) : td_msim l E (d + 0) mX9_sign g_c [tv_R 10] D (F_X9_sign D) := by
  refine td_meetL (ls := [tv_R 10]) rfl (Nat.le_of_ble_eq_true rfl) rfl ?_
  unfold F_X9_sign
  refine ts_aload_n (i := 0) rfl rfl dX9_sign_0 ?_
  refine td_getI tl_X9_19 rfl ga_c_10 rfl dX9_sign_1 ?_
  refine ts_aload_n (i := 0) rfl rfl dX9_sign_4 ?_
  refine td_getI tl_X9_15 rfl ga_c_10 rfl dX9_sign_5 ?_
  refine td_icmp_ge (tgt := 23) rfl dX9_sign_8 ?_ ?_
  · refine ts_iconst rfl dX9_sign_23 ?_
    exact td_iret rfl dX9_sign_24
  · refine ts_aload_n (i := 0) rfl rfl dX9_sign_11 ?_
    refine td_getR (q := 11) tl_X9_9 rfl ga_c_10 rfl dX9_sign_12 ?_
    refine ts_aload_n (i := 0) rfl rfl dX9_sign_15 ?_
    refine td_getI tl_X9_19 rfl ga_c_10 rfl dX9_sign_16 ?_
    refine td_guard (fun h1 => ?_)
    refine td_ialdK ga_c_11 (gn_c_11 _) h1 dX9_sign_19 ?_
    refine ts_goto (tgt := 24) rfl dX9_sign_20 ?_
    exact td_iret rfl dX9_sign_24
def F_X9_isDigit (a0 : Int) (D : td_D) : Option (Int × td_D) :=
  if a0 < 48 then
    some (0, D)
  else
    if 57 < a0 then
      some (0, D)
    else
      some (1, D)
set_option maxHeartbeats 4000000 in
set_option maxRecDepth 20000 in
theorem S_X9_isDigit (l : Launch) {E : tv_E} (hE : tv_hE E) (d : Nat) (a0 : Int) (D : td_D) : td_msim l E (d + 0) mX9_isDigit g_c [tv_I a0] D (F_X9_isDigit a0 D) := by
  refine td_meetL (ls := [tv_I a0]) rfl (Nat.le_of_ble_eq_true rfl) rfl ?_
  unfold F_X9_isDigit
  refine ts_iload_n (i := 0) rfl rfl dX9_isDigit_0 ?_
  refine ts_bipush rfl dX9_isDigit_1 ?_
  refine td_icmp_lt (tgt := 16) rfl dX9_isDigit_3 ?_ ?_
  · refine ts_iconst rfl dX9_isDigit_16 ?_
    exact td_zretK (Or.inl rfl) rfl dX9_isDigit_17
  · refine ts_iload_n (i := 0) rfl rfl dX9_isDigit_6 ?_
    refine ts_bipush rfl dX9_isDigit_7 ?_
    refine td_icmp_gt (tgt := 16) rfl dX9_isDigit_9 ?_ ?_
    · refine ts_iconst rfl dX9_isDigit_16 ?_
      exact td_zretK (Or.inl rfl) rfl dX9_isDigit_17
    · refine ts_iconst rfl dX9_isDigit_12 ?_
      refine ts_goto (tgt := 17) rfl dX9_isDigit_13 ?_
      exact td_zretK (Or.inr rfl) rfl dX9_isDigit_17
def F_X9_readNumber_4 : Nat → Nat → Int → Int → td_D → Option (Int × td_D)
  | 0, _, _, _, _ => none
  | n + 1, v1, v2, v3, D =>
    if 4 ≤ v3 then
      td_b (F_X1_add v1 1 v2 D) fun _ D2 =>
      some (0, D2)
    else
      td_b (F_X9_sign D) fun r3 D4 =>
      td_b (F_X9_isDigit r3 D4) fun r5 D6 =>
      if r5 = 0 then
        td_b (F_X1_add v1 1 v2 D6) fun _ D8 =>
        some (0, D8)
      else
        td_b (F_X9_sign D6) fun r9 D10 =>
        td_l (td_upd D10 10 2 (tv_w ((D10 10 2) + 1))) fun D11 =>
        F_X9_readNumber_4 n v1 (tv_w ((tv_w ((tv_w (v2 * 10)) + r9)) - 48)) (tv_w (v3 + 1)) D11
set_option maxHeartbeats 4000000 in
set_option maxRecDepth 20000 in
theorem S_X9_readNumber_4 {l : Launch} {E : tv_E} (hE : tv_hE E) (d : Nat) : ∀ (n : Nat) (v1 : Nat) (v2 : Int) (v3 : Int) (D : td_D), tv_isCode v1 → td_sim l E (d + 1) mX9_readNumber g_c 4 [tv_R 10, tv_R v1, tv_I v2, tv_I v3] [] D (F_X9_readNumber_4 n v1 v2 v3 D) := by
  intro n
  induction n with
  | zero => intros; exact tv_none
  | succ n ih =>
    intro v1 v2 v3 D hv1
    show td_sim _ _ _ _ _ _ _ _ _ (F_X9_readNumber_4 (n + 1) v1 v2 v3 D)
    unfold F_X9_readNumber_4
    refine ts_iload_n (i := 3) rfl rfl dX9_readNumber_4 ?_
    refine ts_iconst rfl dX9_readNumber_5 ?_
    refine td_icmp_ge (tgt := 48) rfl dX9_readNumber_6 ?_ ?_
    · refine ts_aload_n (i := 1) rfl rfl dX9_readNumber_48 ?_
      refine ts_iconst rfl dX9_readNumber_49 ?_
      refine ts_iload_n (i := 2) rfl rfl dX9_readNumber_50 ?_
      refine tq_callV (y2 := mX1_add) [tv_I 1, tv_I v2] [] v1 (st' := fun _ => []) tw_X1_add tx_X1_add tw_c1 hv1.1 tl_X9_43 rfl rfl rfl rfl (fun _ => rfl) dX9_readNumber_51 (S_X1_add l hE _ v1 1 v2 hv1 D) (fun r1 D2 => ?_)
      exact td_vret rfl dX9_readNumber_54
    · refine ts_aload_n (i := 0) rfl rfl dX9_readNumber_9 ?_
      refine tq_callV (y2 := mX9_sign) [] [] 10 (st' := fun r3 => [tv_I r3]) tw_X9_sign tx_X9_sign tw_c9 ga_c_10 tl_X9_35 rfl rfl rfl rfl (fun _ => rfl) dX9_readNumber_10 (S_X9_sign l hE _ D) (fun r3 D4 => ?_)
      refine tq_callS (y2 := mX9_isDigit) [tv_I r3] [] (st' := fun r5 => [tv_I r5]) tw_X9_isDigit tx_X9_isDigit tl_X9_62 rfl rfl rfl rfl (fun _ => rfl) dX9_readNumber_13 (S_X9_isDigit l hE _ r3 D4) (fun r5 D6 => ?_)
      refine td_if_eq (tgt := 48) rfl dX9_readNumber_16 ?_ ?_
      · refine ts_aload_n (i := 1) rfl rfl dX9_readNumber_48 ?_
        refine ts_iconst rfl dX9_readNumber_49 ?_
        refine ts_iload_n (i := 2) rfl rfl dX9_readNumber_50 ?_
        refine tq_callV (y2 := mX1_add) [tv_I 1, tv_I v2] [] v1 (st' := fun _ => []) tw_X1_add tx_X1_add tw_c1 hv1.1 tl_X9_43 rfl rfl rfl rfl (fun _ => rfl) dX9_readNumber_51 (S_X1_add l hE _ v1 1 v2 hv1 D6) (fun r7 D8 => ?_)
        exact td_vret rfl dX9_readNumber_54
      · refine ts_iload_n (i := 2) rfl rfl dX9_readNumber_19 ?_
        refine ts_bipush rfl dX9_readNumber_20 ?_
        refine ts_imul dX9_readNumber_22 ?_
        refine ts_aload_n (i := 0) rfl rfl dX9_readNumber_23 ?_
        refine tq_callV (y2 := mX9_sign) [] [tv_I (tv_w (v2 * 10))] 10 (st' := fun r9 => [tv_I r9, tv_I (tv_w (v2 * 10))]) tw_X9_sign tx_X9_sign tw_c9 ga_c_10 tl_X9_35 rfl rfl rfl rfl (fun _ => rfl) dX9_readNumber_24 (S_X9_sign l hE _ D6) (fun r9 D10 => ?_)
        refine ts_iadd dX9_readNumber_27 ?_
        refine ts_bipush rfl dX9_readNumber_28 ?_
        refine ts_isub dX9_readNumber_30 ?_
        refine tq_istore_n [tv_R 10, tv_R v1, tv_I (tv_w ((tv_w ((tv_w (v2 * 10)) + r9)) - 48)), tv_I v3] rfl (Nat.le_of_ble_eq_true rfl) rfl rfl dX9_readNumber_31 ?_
        refine ts_aload_n (i := 0) rfl rfl dX9_readNumber_32 ?_
        refine ts_dupR dX9_readNumber_33 ?_
        refine td_getI tl_X9_19 rfl ga_c_10 rfl dX9_readNumber_34 ?_
        refine ts_iconst rfl dX9_readNumber_37 ?_
        refine ts_iadd dX9_readNumber_38 ?_
        refine td_putI tf_X9_19 (by intro h; cases h) rfl ga_c_10 rfl dX9_readNumber_39 ?_
        refine td_let (fun D11 => ?_)
        refine tq_iinc [tv_R 10, tv_R v1, tv_I (tv_w ((tv_w ((tv_w (v2 * 10)) + r9)) - 48)), tv_I (tv_w (v3 + 1))] rfl rfl rfl dX9_readNumber_42 ?_
        refine ts_goto (tgt := 4) rfl dX9_readNumber_45 ?_
        exact ih v1 (tv_w ((tv_w ((tv_w (v2 * 10)) + r9)) - 48)) (tv_w (v3 + 1)) D11 hv1
def F_X9_readNumber (p1 : Nat) (D : td_D) : Option (Int × td_D) :=
  F_X9_readNumber_4 tf_N p1 0 0 D
set_option maxHeartbeats 4000000 in
set_option maxRecDepth 20000 in
theorem S_X9_readNumber (l : Launch) {E : tv_E} (hE : tv_hE E) (d : Nat) (p1 : Nat) (hp1 : tv_isCode p1) (D : td_D) : td_msim l E (d + 1) mX9_readNumber g_c [tv_R 10, tv_R p1] D (F_X9_readNumber p1 D) := by
  refine td_meetL (ls := [tv_R 10, tv_R p1, tv_U, tv_U]) rfl (Nat.le_of_ble_eq_true rfl) rfl ?_
  unfold F_X9_readNumber
  refine ts_iconst rfl dX9_readNumber_0 ?_
  refine tq_istore_n [tv_R 10, tv_R p1, tv_I 0, tv_U] rfl (Nat.le_of_ble_eq_true rfl) rfl rfl dX9_readNumber_1 ?_
  refine ts_iconst rfl dX9_readNumber_2 ?_
  refine tq_istore_n [tv_R 10, tv_R p1, tv_I 0, tv_I 0] rfl (Nat.le_of_ble_eq_true rfl) rfl rfl dX9_readNumber_3 ?_
  exact S_X9_readNumber_4 hE d tf_N p1 0 0 D hp1
def F_X9_readClosing (D : td_D) : Option (Int × td_D) :=
  if D 10 3 = 0 then
    td_b (F_X9_sign D) fun r1 D2 =>
    if r1 = 41 then
      td_l (td_upd D2 10 2 (tv_w ((D2 10 2) + 1))) fun D3 =>
      some (0, D3)
    else
      td_l (td_upd D2 10 3 1) fun D4 =>
      some (0, D4)
  else
    td_l (td_upd D 10 3 1) fun D5 =>
    some (0, D5)
set_option maxHeartbeats 4000000 in
set_option maxRecDepth 20000 in
theorem S_X9_readClosing (l : Launch) {E : tv_E} (hE : tv_hE E) (d : Nat) (D : td_D) : td_msim l E (d + 1) mX9_readClosing g_c [tv_R 10] D (F_X9_readClosing D) := by
  refine td_meetL (ls := [tv_R 10]) rfl (Nat.le_of_ble_eq_true rfl) rfl ?_
  unfold F_X9_readClosing
  refine ts_aload_n (i := 0) rfl rfl dX9_readClosing_0 ?_
  refine td_getI tl_X9_22 rfl ga_c_10 rfl dX9_readClosing_1 ?_
  refine td_if_ne (tgt := 16) rfl dX9_readClosing_4 ?_ ?_
  · refine ts_aload_n (i := 0) rfl rfl dX9_readClosing_7 ?_
    refine tq_callV (y2 := mX9_sign) [] [] 10 (st' := fun r1 => [tv_I r1]) tw_X9_sign tx_X9_sign tw_c9 ga_c_10 tl_X9_35 rfl rfl rfl rfl (fun _ => rfl) dX9_readClosing_8 (S_X9_sign l hE _ D) (fun r1 D2 => ?_)
    refine ts_bipush rfl dX9_readClosing_11 ?_
    refine td_icmp_eq (tgt := 24) rfl dX9_readClosing_13 ?_ ?_
    · refine ts_aload_n (i := 0) rfl rfl dX9_readClosing_24 ?_
      refine ts_dupR dX9_readClosing_25 ?_
      refine td_getI tl_X9_19 rfl ga_c_10 rfl dX9_readClosing_26 ?_
      refine ts_iconst rfl dX9_readClosing_29 ?_
      refine ts_iadd dX9_readClosing_30 ?_
      refine td_putI tf_X9_19 (by intro h; cases h) rfl ga_c_10 rfl dX9_readClosing_31 ?_
      refine td_let (fun D3 => ?_)
      exact td_vret rfl dX9_readClosing_34
    · refine ts_aload_n (i := 0) rfl rfl dX9_readClosing_16 ?_
      refine ts_iconst rfl dX9_readClosing_17 ?_
      refine td_putZ tf_X9_22 (by intro h; cases h) rfl ga_c_10 rfl (Or.inr rfl) dX9_readClosing_18 ?_
      refine td_let (fun D4 => ?_)
      refine ts_goto (tgt := 34) rfl dX9_readClosing_21 ?_
      exact td_vret rfl dX9_readClosing_34
  · refine ts_aload_n (i := 0) rfl rfl dX9_readClosing_16 ?_
    refine ts_iconst rfl dX9_readClosing_17 ?_
    refine td_putZ tf_X9_22 (by intro h; cases h) rfl ga_c_10 rfl (Or.inr rfl) dX9_readClosing_18 ?_
    refine td_let (fun D5 => ?_)
    refine ts_goto (tgt := 34) rfl dX9_readClosing_21 ?_
    exact td_vret rfl dX9_readClosing_34
def F_X9_nameOf_104 (D : td_D) : Option (Int × td_D) :=
  some ((-1), D)
set_option maxHeartbeats 4000000 in
set_option maxRecDepth 20000 in
theorem S_X9_nameOf_104 {l : Launch} {E : tv_E} (hE : tv_hE E) (d : Nat) (D : td_D) : td_sim l E (d + 0) mX9_nameOf g_c 104 [tv_U] [] D (F_X9_nameOf_104 D) := by
  unfold F_X9_nameOf_104
  refine ts_iconst rfl dX9_nameOf_104 ?_
  exact td_iret rfl dX9_nameOf_105
def F_X9_nameOf (a0 : Int) (D : td_D) : Option (Int × td_D) :=
  if a0 = 97 then
    some (0, D)
  else if a0 = 98 then
    F_X9_nameOf_104 D
  else if a0 = 99 then
    F_X9_nameOf_104 D
  else if a0 = 100 then
    some (5, D)
  else if a0 = 101 then
    F_X9_nameOf_104 D
  else if a0 = 102 then
    F_X9_nameOf_104 D
  else if a0 = 103 then
    F_X9_nameOf_104 D
  else if a0 = 104 then
    some (4, D)
  else if a0 = 105 then
    F_X9_nameOf_104 D
  else if a0 = 106 then
    F_X9_nameOf_104 D
  else if a0 = 107 then
    F_X9_nameOf_104 D
  else if a0 = 108 then
    F_X9_nameOf_104 D
  else if a0 = 109 then
    F_X9_nameOf_104 D
  else if a0 = 110 then
    some (1, D)
  else if a0 = 111 then
    some (3, D)
  else if a0 = 112 then
    F_X9_nameOf_104 D
  else if a0 = 113 then
    F_X9_nameOf_104 D
  else if a0 = 114 then
    F_X9_nameOf_104 D
  else if a0 = 115 then
    some (2, D)
  else
    F_X9_nameOf_104 D
set_option maxHeartbeats 4000000 in
set_option maxRecDepth 20000 in
theorem S_X9_nameOf (l : Launch) {E : tv_E} (hE : tv_hE E) (d : Nat) (a0 : Int) (D : td_D) : td_msim l E (d + 0) mX9_nameOf g_c [tv_I a0] D (F_X9_nameOf a0 D) := by
  refine td_meetL (ls := [tv_I a0]) rfl (Nat.le_of_ble_eq_true rfl) rfl ?_
  unfold F_X9_nameOf
  refine ts_iload_n (i := 0) rfl rfl dX9_nameOf_0 ?_
  refine td_ite (fun h1 => ?_) (fun h1 => ?_)
  · refine ts_tabIn (i := 0) (tgt := 92) (by omega) (by omega) rfl rfl dX9_nameOf_1 ?_
    refine ts_iconst rfl dX9_nameOf_92 ?_
    exact td_iret rfl dX9_nameOf_93
  refine td_ite (fun h2 => ?_) (fun h2 => ?_)
  · refine ts_tabIn (i := 1) (tgt := 104) (by omega) (by omega) rfl rfl dX9_nameOf_1 ?_
    refine tv_weak (ls' := [tv_U]) ⟨Or.inl rfl, trivial⟩ ?_
    exact S_X9_nameOf_104 hE d D
  refine td_ite (fun h3 => ?_) (fun h3 => ?_)
  · refine ts_tabIn (i := 2) (tgt := 104) (by omega) (by omega) rfl rfl dX9_nameOf_1 ?_
    refine tv_weak (ls' := [tv_U]) ⟨Or.inl rfl, trivial⟩ ?_
    exact S_X9_nameOf_104 hE d D
  refine td_ite (fun h4 => ?_) (fun h4 => ?_)
  · refine ts_tabIn (i := 3) (tgt := 102) (by omega) (by omega) rfl rfl dX9_nameOf_1 ?_
    refine ts_iconst rfl dX9_nameOf_102 ?_
    exact td_iret rfl dX9_nameOf_103
  refine td_ite (fun h5 => ?_) (fun h5 => ?_)
  · refine ts_tabIn (i := 4) (tgt := 104) (by omega) (by omega) rfl rfl dX9_nameOf_1 ?_
    refine tv_weak (ls' := [tv_U]) ⟨Or.inl rfl, trivial⟩ ?_
    exact S_X9_nameOf_104 hE d D
  refine td_ite (fun h6 => ?_) (fun h6 => ?_)
  · refine ts_tabIn (i := 5) (tgt := 104) (by omega) (by omega) rfl rfl dX9_nameOf_1 ?_
    refine tv_weak (ls' := [tv_U]) ⟨Or.inl rfl, trivial⟩ ?_
    exact S_X9_nameOf_104 hE d D
  refine td_ite (fun h7 => ?_) (fun h7 => ?_)
  · refine ts_tabIn (i := 6) (tgt := 104) (by omega) (by omega) rfl rfl dX9_nameOf_1 ?_
    refine tv_weak (ls' := [tv_U]) ⟨Or.inl rfl, trivial⟩ ?_
    exact S_X9_nameOf_104 hE d D
  refine td_ite (fun h8 => ?_) (fun h8 => ?_)
  · refine ts_tabIn (i := 7) (tgt := 100) (by omega) (by omega) rfl rfl dX9_nameOf_1 ?_
    refine ts_iconst rfl dX9_nameOf_100 ?_
    exact td_iret rfl dX9_nameOf_101
  refine td_ite (fun h9 => ?_) (fun h9 => ?_)
  · refine ts_tabIn (i := 8) (tgt := 104) (by omega) (by omega) rfl rfl dX9_nameOf_1 ?_
    refine tv_weak (ls' := [tv_U]) ⟨Or.inl rfl, trivial⟩ ?_
    exact S_X9_nameOf_104 hE d D
  refine td_ite (fun h10 => ?_) (fun h10 => ?_)
  · refine ts_tabIn (i := 9) (tgt := 104) (by omega) (by omega) rfl rfl dX9_nameOf_1 ?_
    refine tv_weak (ls' := [tv_U]) ⟨Or.inl rfl, trivial⟩ ?_
    exact S_X9_nameOf_104 hE d D
  refine td_ite (fun h11 => ?_) (fun h11 => ?_)
  · refine ts_tabIn (i := 10) (tgt := 104) (by omega) (by omega) rfl rfl dX9_nameOf_1 ?_
    refine tv_weak (ls' := [tv_U]) ⟨Or.inl rfl, trivial⟩ ?_
    exact S_X9_nameOf_104 hE d D
  refine td_ite (fun h12 => ?_) (fun h12 => ?_)
  · refine ts_tabIn (i := 11) (tgt := 104) (by omega) (by omega) rfl rfl dX9_nameOf_1 ?_
    refine tv_weak (ls' := [tv_U]) ⟨Or.inl rfl, trivial⟩ ?_
    exact S_X9_nameOf_104 hE d D
  refine td_ite (fun h13 => ?_) (fun h13 => ?_)
  · refine ts_tabIn (i := 12) (tgt := 104) (by omega) (by omega) rfl rfl dX9_nameOf_1 ?_
    refine tv_weak (ls' := [tv_U]) ⟨Or.inl rfl, trivial⟩ ?_
    exact S_X9_nameOf_104 hE d D
  refine td_ite (fun h14 => ?_) (fun h14 => ?_)
  · refine ts_tabIn (i := 13) (tgt := 94) (by omega) (by omega) rfl rfl dX9_nameOf_1 ?_
    refine ts_iconst rfl dX9_nameOf_94 ?_
    exact td_iret rfl dX9_nameOf_95
  refine td_ite (fun h15 => ?_) (fun h15 => ?_)
  · refine ts_tabIn (i := 14) (tgt := 98) (by omega) (by omega) rfl rfl dX9_nameOf_1 ?_
    refine ts_iconst rfl dX9_nameOf_98 ?_
    exact td_iret rfl dX9_nameOf_99
  refine td_ite (fun h16 => ?_) (fun h16 => ?_)
  · refine ts_tabIn (i := 15) (tgt := 104) (by omega) (by omega) rfl rfl dX9_nameOf_1 ?_
    refine tv_weak (ls' := [tv_U]) ⟨Or.inl rfl, trivial⟩ ?_
    exact S_X9_nameOf_104 hE d D
  refine td_ite (fun h17 => ?_) (fun h17 => ?_)
  · refine ts_tabIn (i := 16) (tgt := 104) (by omega) (by omega) rfl rfl dX9_nameOf_1 ?_
    refine tv_weak (ls' := [tv_U]) ⟨Or.inl rfl, trivial⟩ ?_
    exact S_X9_nameOf_104 hE d D
  refine td_ite (fun h18 => ?_) (fun h18 => ?_)
  · refine ts_tabIn (i := 17) (tgt := 104) (by omega) (by omega) rfl rfl dX9_nameOf_1 ?_
    refine tv_weak (ls' := [tv_U]) ⟨Or.inl rfl, trivial⟩ ?_
    exact S_X9_nameOf_104 hE d D
  refine td_ite (fun h19 => ?_) (fun h19 => ?_)
  · refine ts_tabIn (i := 18) (tgt := 96) (by omega) (by omega) rfl rfl dX9_nameOf_1 ?_
    refine ts_iconst rfl dX9_nameOf_96 ?_
    exact td_iret rfl dX9_nameOf_97
  refine ts_tabOut (tgt := 104) (by omega) rfl dX9_nameOf_1 ?_
  refine tv_weak (ls' := [tv_U]) ⟨Or.inl rfl, trivial⟩ ?_
  exact S_X9_nameOf_104 hE d D
def F_X9_rankOf (a0 : Int) (D : td_D) : Option (Int × td_D) :=
  if a0 = 37 then
    some (4, D)
  else if a0 = 38 then
    some (1, D)
  else if a0 = 42 then
    some (4, D)
  else if a0 = 43 then
    some (3, D)
  else if a0 = 45 then
    some (3, D)
  else if a0 = 47 then
    some (4, D)
  else if a0 = 60 then
    some (2, D)
  else if a0 = 61 then
    some (2, D)
  else if a0 = 62 then
    some (2, D)
  else if a0 = 124 then
    some (0, D)
  else
    some ((-1), D)
set_option maxHeartbeats 4000000 in
set_option maxRecDepth 20000 in
theorem S_X9_rankOf (l : Launch) {E : tv_E} (hE : tv_hE E) (d : Nat) (a0 : Int) (D : td_D) : td_msim l E (d + 0) mX9_rankOf g_c [tv_I a0] D (F_X9_rankOf a0 D) := by
  refine td_meetL (ls := [tv_I a0]) rfl (Nat.le_of_ble_eq_true rfl) rfl ?_
  unfold F_X9_rankOf
  refine ts_iload_n (i := 0) rfl rfl dX9_rankOf_0 ?_
  refine td_ite (fun h1 => ?_) (fun h1 => ?_)
  · refine ts_look (off := 99) (tgt := 100) (by decide) (by rw [h1]; rfl) rfl dX9_rankOf_1 ?_
    refine ts_iconst rfl dX9_rankOf_100 ?_
    exact td_iret rfl dX9_rankOf_101
  refine td_ite (fun h2 => ?_) (fun h2 => ?_)
  · refine ts_look (off := 93) (tgt := 94) (by decide) (by rw [h2]; rfl) rfl dX9_rankOf_1 ?_
    refine ts_iconst rfl dX9_rankOf_94 ?_
    exact td_iret rfl dX9_rankOf_95
  refine td_ite (fun h3 => ?_) (fun h3 => ?_)
  · refine ts_look (off := 99) (tgt := 100) (by decide) (by rw [h3]; rfl) rfl dX9_rankOf_1 ?_
    refine ts_iconst rfl dX9_rankOf_100 ?_
    exact td_iret rfl dX9_rankOf_101
  refine td_ite (fun h4 => ?_) (fun h4 => ?_)
  · refine ts_look (off := 97) (tgt := 98) (by decide) (by rw [h4]; rfl) rfl dX9_rankOf_1 ?_
    refine ts_iconst rfl dX9_rankOf_98 ?_
    exact td_iret rfl dX9_rankOf_99
  refine td_ite (fun h5 => ?_) (fun h5 => ?_)
  · refine ts_look (off := 97) (tgt := 98) (by decide) (by rw [h5]; rfl) rfl dX9_rankOf_1 ?_
    refine ts_iconst rfl dX9_rankOf_98 ?_
    exact td_iret rfl dX9_rankOf_99
  refine td_ite (fun h6 => ?_) (fun h6 => ?_)
  · refine ts_look (off := 99) (tgt := 100) (by decide) (by rw [h6]; rfl) rfl dX9_rankOf_1 ?_
    refine ts_iconst rfl dX9_rankOf_100 ?_
    exact td_iret rfl dX9_rankOf_101
  refine td_ite (fun h7 => ?_) (fun h7 => ?_)
  · refine ts_look (off := 95) (tgt := 96) (by decide) (by rw [h7]; rfl) rfl dX9_rankOf_1 ?_
    refine ts_iconst rfl dX9_rankOf_96 ?_
    exact td_iret rfl dX9_rankOf_97
  refine td_ite (fun h8 => ?_) (fun h8 => ?_)
  · refine ts_look (off := 95) (tgt := 96) (by decide) (by rw [h8]; rfl) rfl dX9_rankOf_1 ?_
    refine ts_iconst rfl dX9_rankOf_96 ?_
    exact td_iret rfl dX9_rankOf_97
  refine td_ite (fun h9 => ?_) (fun h9 => ?_)
  · refine ts_look (off := 95) (tgt := 96) (by decide) (by rw [h9]; rfl) rfl dX9_rankOf_1 ?_
    refine ts_iconst rfl dX9_rankOf_96 ?_
    exact td_iret rfl dX9_rankOf_97
  refine td_ite (fun h10 => ?_) (fun h10 => ?_)
  · refine ts_look (off := 91) (tgt := 92) (by decide) (by rw [h10]; rfl) rfl dX9_rankOf_1 ?_
    refine ts_iconst rfl dX9_rankOf_92 ?_
    exact td_iret rfl dX9_rankOf_93
  refine ts_look (off := 101) (tgt := 102) (by decide) (tv_lookd (by simp only [List.all_cons, List.all_nil, Bool.and_true, Bool.and_eq_true, decide_eq_true_eq]; exact ⟨h1, h2, h3, h4, h5, h6, h7, h8, h9, h10⟩)) rfl dX9_rankOf_1 ?_
  refine ts_iconst rfl dX9_rankOf_102 ?_
  exact td_iret rfl dX9_rankOf_103
def F_X10_look_47 (k23 : Int → td_D → Option (Int × td_D)) : Nat → Int → Int → Int → td_D → Option (Int × td_D)
  | 0, _, _, _, _ => none
  | n + 1, v2, v3, v4, D =>
    if 100 ≤ v4 then
      k23 (tv_w (v2 + 1)) D
    else
      if 0 ≤ v4 ∧ v4 < ((100 : Nat) : Int) then
        if 0 ≤ v2 ∧ v2 < ((5 : Nat) : Int) then
          td_b (F_X11_apart v4 (D 4 (Int.toNat v2)) D) fun r3 D4 =>
          if v3 < r3 then
            td_l (td_upd D4 24 (Int.toNat v4) (tv_w ((D 24 (Int.toNat v4)) + 0))) fun D5 =>
            F_X10_look_47 k23 n v2 v3 (tv_w (v4 + 1)) D5
          else
            td_l (td_upd D4 24 (Int.toNat v4) (tv_w ((D 24 (Int.toNat v4)) + 1))) fun D6 =>
            F_X10_look_47 k23 n v2 v3 (tv_w (v4 + 1)) D6
        else none
      else none
set_option maxHeartbeats 4000000 in
set_option maxRecDepth 20000 in
theorem S_X10_look_47 {l : Launch} {E : tv_E} (hE : tv_hE E) (d : Nat) (k23 : Int → td_D → Option (Int × td_D)) (hk23 : ∀ (v2 : Int) (D : td_D), td_sim l E (d + 2) mX10_look g_c 23 [tv_R 23, tv_R 2, tv_I v2, tv_U, tv_U] [] D (k23 v2 D)) : ∀ (n : Nat) (v2 : Int) (v3 : Int) (v4 : Int) (D : td_D), td_sim l E (d + 2) mX10_look g_c 47 [tv_R 23, tv_R 2, tv_I v2, tv_I v3, tv_I v4] [] D (F_X10_look_47 k23 n v2 v3 v4 D) := by
  intro n
  induction n with
  | zero => intros; exact tv_none
  | succ n ih =>
    intro v2 v3 v4 D
    show td_sim _ _ _ _ _ _ _ _ _ (F_X10_look_47 k23 (n + 1) v2 v3 v4 D)
    unfold F_X10_look_47
    refine ts_iload rfl dX10_look_47 ?_
    refine ts_bipush rfl dX10_look_49 ?_
    refine td_icmp_ge (tgt := 90) rfl dX10_look_51 ?_ ?_
    · refine tq_iinc [tv_R 23, tv_R 2, tv_I (tv_w (v2 + 1)), tv_I v3, tv_I v4] rfl rfl rfl dX10_look_90 ?_
      refine ts_goto (tgt := 23) rfl dX10_look_93 ?_
      refine tv_weak (ls' := [tv_R 23, tv_R 2, tv_I (tv_w (v2 + 1)), tv_U, tv_U]) ⟨Or.inr rfl, Or.inr rfl, Or.inr rfl, Or.inl rfl, Or.inl rfl, trivial⟩ ?_
      exact hk23 (tv_w (v2 + 1)) D
    · refine ts_aload_n (i := 0) rfl rfl dX10_look_54 ?_
      refine td_getR (q := 24) tl_X10_9 rfl ga_c_23 rfl dX10_look_55 ?_
      refine ts_iload rfl dX10_look_58 ?_
      refine ts_dup2 dX10_look_60 ?_
      refine td_guard (fun h1 => ?_)
      refine td_ialdK ga_c_24 (gn_c_24 _) h1 dX10_look_61 ?_
      refine ts_iload rfl dX10_look_62 ?_
      refine ts_aload_n (i := 1) rfl rfl dX10_look_64 ?_
      refine td_getR (q := 4) tl_X10_40 rfl ga_c_2 rfl dX10_look_65 ?_
      refine ts_iload_n (i := 2) rfl rfl dX10_look_68 ?_
      refine td_guard (fun h2 => ?_)
      refine td_ialdK ga_c_4 (gn_c_4 _) h2 dX10_look_69 ?_
      refine tq_callSN (y2 := mX11_apart) [tv_I v4, tv_I (D 4 (Int.toNat v2))] [tv_I (D 24 (Int.toNat v4)), tv_I v4, tv_R 24] (st' := fun r3 => [tv_I r3, tv_I (D 24 (Int.toNat v4)), tv_I v4, tv_R 24]) tw_X11_apart tx_X11_apart tl_X10_43 rfl rfl rfl rfl (fun _ => rfl) dX10_look_70 (S_X11_apart l hE _ v4 (D 4 (Int.toNat v2)) D) (fun r3 D4 => ?_)
      refine ts_iload_n (i := 3) rfl rfl dX10_look_73 ?_
      refine td_icmp_gt (tgt := 81) rfl dX10_look_74 ?_ ?_
      · refine ts_iconst rfl dX10_look_81 ?_
        refine ts_iadd dX10_look_82 ?_
        refine td_iastK ga_c_24 (gn_c_24 _) h1 dX10_look_83 ?_
        refine td_let (fun D5 => ?_)
        refine tq_iinc [tv_R 23, tv_R 2, tv_I v2, tv_I v3, tv_I (tv_w (v4 + 1))] rfl rfl rfl dX10_look_84 ?_
        refine ts_goto (tgt := 47) rfl dX10_look_87 ?_
        exact ih v2 v3 (tv_w (v4 + 1)) D5
      · refine ts_iconst rfl dX10_look_77 ?_
        refine ts_goto (tgt := 82) rfl dX10_look_78 ?_
        refine ts_iadd dX10_look_82 ?_
        refine td_iastK ga_c_24 (gn_c_24 _) h1 dX10_look_83 ?_
        refine td_let (fun D6 => ?_)
        refine tq_iinc [tv_R 23, tv_R 2, tv_I v2, tv_I v3, tv_I (tv_w (v4 + 1))] rfl rfl rfl dX10_look_84 ?_
        refine ts_goto (tgt := 47) rfl dX10_look_87 ?_
        exact ih v2 v3 (tv_w (v4 + 1)) D6
def F_X10_look_23 : Nat → Int → td_D → Option (Int × td_D)
  | 0, _, _ => none
  | n + 1, v2, D =>
    if D 2 1 ≤ v2 then
      some (0, D)
    else
      td_b (F_X7_allIn 5 v2 D) fun r7 D8 =>
      td_b (F_X3_farOf r7 D8) fun r9 D10 =>
      F_X10_look_47 (fun v2 D => F_X10_look_23 n v2 D) tf_N v2 r9 0 D10
set_option maxHeartbeats 4000000 in
set_option maxRecDepth 20000 in
theorem S_X10_look_23 {l : Launch} {E : tv_E} (hE : tv_hE E) (d : Nat) : ∀ (n : Nat) (v2 : Int) (D : td_D), td_sim l E (d + 2) mX10_look g_c 23 [tv_R 23, tv_R 2, tv_I v2, tv_U, tv_U] [] D (F_X10_look_23 n v2 D) := by
  intro n
  induction n with
  | zero => intros; exact tv_none
  | succ n ih =>
    intro v2 D
    show td_sim _ _ _ _ _ _ _ _ _ (F_X10_look_23 (n + 1) v2 D)
    unfold F_X10_look_23
    refine ts_iload_n (i := 2) rfl rfl dX10_look_23 ?_
    refine ts_aload_n (i := 1) rfl rfl dX10_look_24 ?_
    refine td_getI tl_X10_21 rfl ga_c_2 rfl dX10_look_25 ?_
    refine td_icmp_ge (tgt := 96) rfl dX10_look_28 ?_ ?_
    · exact td_vret rfl dX10_look_96
    · refine ts_aload_n (i := 1) rfl rfl dX10_look_31 ?_
      refine ts_aload_n (i := 1) rfl rfl dX10_look_32 ?_
      refine td_getR (q := 5) tl_X10_27 rfl ga_c_2 rfl dX10_look_33 ?_
      refine ts_iload_n (i := 2) rfl rfl dX10_look_36 ?_
      refine tq_callV (y2 := mX7_allIn) [tv_I v2] [tv_R 2] 5 (st' := fun r7 => [tv_I r7, tv_R 2]) tw_X7_allIn tx_X7_allIn tw_c7 ga_c_5 tl_X10_31 rfl rfl rfl rfl (fun _ => rfl) dX10_look_37 (S_X7_allIn l hE _ 5 v2 is_stock_5 D) (fun r7 D8 => ?_)
      refine tq_callV (y2 := mX3_farOf) [tv_I r7] [] 2 (st' := fun r9 => [tv_I r9]) tw_X3_farOf tx_X3_farOf tw_c3 ga_c_2 tl_X10_37 rfl rfl rfl rfl (fun _ => rfl) dX10_look_40 (S_X3_farOf l hE _ r7 D8) (fun r9 D10 => ?_)
      refine tq_istore_n [tv_R 23, tv_R 2, tv_I v2, tv_I r9, tv_U] rfl (Nat.le_of_ble_eq_true rfl) rfl rfl dX10_look_43 ?_
      refine ts_iconst rfl dX10_look_44 ?_
      refine tq_istore [tv_R 23, tv_R 2, tv_I v2, tv_I r9, tv_I 0] (Nat.le_of_ble_eq_true rfl) rfl rfl dX10_look_45 ?_
      exact S_X10_look_47 hE d (fun v2 D => F_X10_look_23 n v2 D) (fun v2 D => ih v2 D) tf_N v2 r9 0 D10
def F_X10_look_2 : Nat → Int → td_D → Option (Int × td_D)
  | 0, _, _ => none
  | n + 1, v2, D =>
    if 100 ≤ v2 then
      F_X10_look_23 tf_N 0 D
    else
      if 0 ≤ v2 ∧ v2 < ((100 : Nat) : Int) then
        td_l (td_upd D 24 (Int.toNat v2) 0) fun D12 =>
        F_X10_look_2 n (tv_w (v2 + 1)) D12
      else none
set_option maxHeartbeats 4000000 in
set_option maxRecDepth 20000 in
theorem S_X10_look_2 {l : Launch} {E : tv_E} (hE : tv_hE E) (d : Nat) : ∀ (n : Nat) (v2 : Int) (D : td_D), td_sim l E (d + 2) mX10_look g_c 2 [tv_R 23, tv_R 2, tv_I v2, tv_U, tv_U] [] D (F_X10_look_2 n v2 D) := by
  intro n
  induction n with
  | zero => intros; exact tv_none
  | succ n ih =>
    intro v2 D
    show td_sim _ _ _ _ _ _ _ _ _ (F_X10_look_2 (n + 1) v2 D)
    unfold F_X10_look_2
    refine ts_iload_n (i := 2) rfl rfl dX10_look_2 ?_
    refine ts_bipush rfl dX10_look_3 ?_
    refine td_icmp_ge (tgt := 21) rfl dX10_look_5 ?_ ?_
    · refine ts_iconst rfl dX10_look_21 ?_
      refine tq_istore_n [tv_R 23, tv_R 2, tv_I 0, tv_U, tv_U] rfl (Nat.le_of_ble_eq_true rfl) rfl rfl dX10_look_22 ?_
      exact S_X10_look_23 hE d tf_N 0 D
    · refine ts_aload_n (i := 0) rfl rfl dX10_look_8 ?_
      refine td_getR (q := 24) tl_X10_9 rfl ga_c_23 rfl dX10_look_9 ?_
      refine ts_iload_n (i := 2) rfl rfl dX10_look_12 ?_
      refine ts_iconst rfl dX10_look_13 ?_
      refine td_guard (fun h11 => ?_)
      refine td_iastK ga_c_24 (gn_c_24 _) h11 dX10_look_14 ?_
      refine td_let (fun D12 => ?_)
      refine tq_iinc [tv_R 23, tv_R 2, tv_I (tv_w (v2 + 1)), tv_U, tv_U] rfl rfl rfl dX10_look_15 ?_
      refine ts_goto (tgt := 2) rfl dX10_look_18 ?_
      exact ih (tv_w (v2 + 1)) D12
def F_X10_look (D : td_D) : Option (Int × td_D) :=
  F_X10_look_2 tf_N 0 D
set_option maxHeartbeats 4000000 in
set_option maxRecDepth 20000 in
theorem S_X10_look (l : Launch) {E : tv_E} (hE : tv_hE E) (d : Nat) (D : td_D) : td_msim l E (d + 2) mX10_look g_c [tv_R 23, tv_R 2] D (F_X10_look D) := by
  refine td_meetL (ls := [tv_R 23, tv_R 2, tv_U, tv_U, tv_U]) rfl (Nat.le_of_ble_eq_true rfl) rfl ?_
  unfold F_X10_look
  refine ts_iconst rfl dX10_look_0 ?_
  refine tq_istore_n [tv_R 23, tv_R 2, tv_I 0, tv_U, tv_U] rfl (Nat.le_of_ble_eq_true rfl) rfl rfl dX10_look_1 ?_
  exact S_X10_look_2 hE d tf_N 0 D
def F_X10_cellsWithin_4 : Nat → Int → Int → Int → Int → td_D → Option (Int × td_D)
  | 0, _, _, _, _, _ => none
  | n + 1, v0, v1, v2, v3, D =>
    if 100 ≤ v3 then
      some (v2, D)
    else
      td_b (F_X11_apart v3 v0 D) fun r1 D2 =>
      if v1 < r1 then
        F_X10_cellsWithin_4 n v0 v1 (tv_w (v2 + 0)) (tv_w (v3 + 1)) D2
      else
        F_X10_cellsWithin_4 n v0 v1 (tv_w (v2 + 1)) (tv_w (v3 + 1)) D2
set_option maxHeartbeats 4000000 in
set_option maxRecDepth 20000 in
theorem S_X10_cellsWithin_4 {l : Launch} {E : tv_E} (hE : tv_hE E) (d : Nat) : ∀ (n : Nat) (v0 : Int) (v1 : Int) (v2 : Int) (v3 : Int) (D : td_D), td_sim l E (d + 2) mX10_cellsWithin g_c 4 [tv_I v0, tv_I v1, tv_I v2, tv_I v3] [] D (F_X10_cellsWithin_4 n v0 v1 v2 v3 D) := by
  intro n
  induction n with
  | zero => intros; exact tv_none
  | succ n ih =>
    intro v0 v1 v2 v3 D
    show td_sim _ _ _ _ _ _ _ _ _ (F_X10_cellsWithin_4 (n + 1) v0 v1 v2 v3 D)
    unfold F_X10_cellsWithin_4
    refine ts_iload_n (i := 3) rfl rfl dX10_cellsWithin_4 ?_
    refine ts_bipush rfl dX10_cellsWithin_5 ?_
    refine td_icmp_ge (tgt := 33) rfl dX10_cellsWithin_7 ?_ ?_
    · refine ts_iload_n (i := 2) rfl rfl dX10_cellsWithin_33 ?_
      exact td_iret rfl dX10_cellsWithin_34
    · refine ts_iload_n (i := 2) rfl rfl dX10_cellsWithin_10 ?_
      refine ts_iload_n (i := 3) rfl rfl dX10_cellsWithin_11 ?_
      refine ts_iload_n (i := 0) rfl rfl dX10_cellsWithin_12 ?_
      refine tq_callSN (y2 := mX11_apart) [tv_I v3, tv_I v0] [tv_I v2] (st' := fun r1 => [tv_I r1, tv_I v2]) tw_X11_apart tx_X11_apart tl_X10_43 rfl rfl rfl rfl (fun _ => rfl) dX10_cellsWithin_13 (S_X11_apart l hE _ v3 v0 D) (fun r1 D2 => ?_)
      refine ts_iload_n (i := 1) rfl rfl dX10_cellsWithin_16 ?_
      refine td_icmp_gt (tgt := 24) rfl dX10_cellsWithin_17 ?_ ?_
      · refine ts_iconst rfl dX10_cellsWithin_24 ?_
        refine ts_iadd dX10_cellsWithin_25 ?_
        refine tq_istore_n [tv_I v0, tv_I v1, tv_I (tv_w (v2 + 0)), tv_I v3] rfl (Nat.le_of_ble_eq_true rfl) rfl rfl dX10_cellsWithin_26 ?_
        refine tq_iinc [tv_I v0, tv_I v1, tv_I (tv_w (v2 + 0)), tv_I (tv_w (v3 + 1))] rfl rfl rfl dX10_cellsWithin_27 ?_
        refine ts_goto (tgt := 4) rfl dX10_cellsWithin_30 ?_
        exact ih v0 v1 (tv_w (v2 + 0)) (tv_w (v3 + 1)) D2
      · refine ts_iconst rfl dX10_cellsWithin_20 ?_
        refine ts_goto (tgt := 25) rfl dX10_cellsWithin_21 ?_
        refine ts_iadd dX10_cellsWithin_25 ?_
        refine tq_istore_n [tv_I v0, tv_I v1, tv_I (tv_w (v2 + 1)), tv_I v3] rfl (Nat.le_of_ble_eq_true rfl) rfl rfl dX10_cellsWithin_26 ?_
        refine tq_iinc [tv_I v0, tv_I v1, tv_I (tv_w (v2 + 1)), tv_I (tv_w (v3 + 1))] rfl rfl rfl dX10_cellsWithin_27 ?_
        refine ts_goto (tgt := 4) rfl dX10_cellsWithin_30 ?_
        exact ih v0 v1 (tv_w (v2 + 1)) (tv_w (v3 + 1)) D2
def F_X10_cellsWithin (a0 : Int) (a1 : Int) (D : td_D) : Option (Int × td_D) :=
  F_X10_cellsWithin_4 tf_N a0 a1 0 0 D
set_option maxHeartbeats 4000000 in
set_option maxRecDepth 20000 in
theorem S_X10_cellsWithin (l : Launch) {E : tv_E} (hE : tv_hE E) (d : Nat) (a0 : Int) (a1 : Int) (D : td_D) : td_msim l E (d + 2) mX10_cellsWithin g_c [tv_I a0, tv_I a1] D (F_X10_cellsWithin a0 a1 D) := by
  refine td_meetL (ls := [tv_I a0, tv_I a1, tv_U, tv_U]) rfl (Nat.le_of_ble_eq_true rfl) rfl ?_
  unfold F_X10_cellsWithin
  refine ts_iconst rfl dX10_cellsWithin_0 ?_
  refine tq_istore_n [tv_I a0, tv_I a1, tv_I 0, tv_U] rfl (Nat.le_of_ble_eq_true rfl) rfl rfl dX10_cellsWithin_1 ?_
  refine ts_iconst rfl dX10_cellsWithin_2 ?_
  refine tq_istore_n [tv_I a0, tv_I a1, tv_I 0, tv_I 0] rfl (Nat.le_of_ble_eq_true rfl) rfl rfl dX10_cellsWithin_3 ?_
  exact S_X10_cellsWithin_4 hE d tf_N a0 a1 0 0 D
def F_X10_beside_47 (v2 : Int) (s0 : Int) (s1 : Int) (D : td_D) : Option (Int × td_D) :=
  if v2 < 0 then
    some ((-1), D)
  else
    if 10 ≤ v2 then
      some ((-1), D)
    else
      if tv_w (s0 + s1) < 0 then
        some ((-1), D)
      else
        if tv_w (s0 + s1) < 10 then
          some (tv_w (v2 + (tv_w (10 * (tv_w (s0 + s1))))), D)
        else
          some ((-1), D)
set_option maxHeartbeats 4000000 in
set_option maxRecDepth 20000 in
theorem S_X10_beside_47 {l : Launch} {E : tv_E} (hE : tv_hE E) (d : Nat) (v2 : Int) (s0 : Int) (s1 : Int) (D : td_D) : td_sim l E (d + 0) mX10_beside g_c 47 [tv_U, tv_U, tv_I v2, tv_U] [tv_I s1, tv_I s0] D (F_X10_beside_47 v2 s0 s1 D) := by
  unfold F_X10_beside_47
  refine ts_iadd dX10_beside_47 ?_
  refine tq_istore_n [tv_U, tv_U, tv_I v2, tv_I (tv_w (s0 + s1))] rfl (Nat.le_of_ble_eq_true rfl) rfl rfl dX10_beside_48 ?_
  refine ts_iload_n (i := 2) rfl rfl dX10_beside_49 ?_
  refine td_if_lt (tgt := 69) rfl dX10_beside_50 ?_ ?_
  · refine ts_iconst rfl dX10_beside_69 ?_
    refine ts_goto (tgt := 79) rfl dX10_beside_70 ?_
    exact td_iret rfl dX10_beside_79
  · refine ts_iload_n (i := 2) rfl rfl dX10_beside_53 ?_
    refine ts_bipush rfl dX10_beside_54 ?_
    refine td_icmp_ge (tgt := 69) rfl dX10_beside_56 ?_ ?_
    · refine ts_iconst rfl dX10_beside_69 ?_
      refine ts_goto (tgt := 79) rfl dX10_beside_70 ?_
      exact td_iret rfl dX10_beside_79
    · refine ts_iload_n (i := 3) rfl rfl dX10_beside_59 ?_
      refine td_if_lt (tgt := 69) rfl dX10_beside_60 ?_ ?_
      · refine ts_iconst rfl dX10_beside_69 ?_
        refine ts_goto (tgt := 79) rfl dX10_beside_70 ?_
        exact td_iret rfl dX10_beside_79
      · refine ts_iload_n (i := 3) rfl rfl dX10_beside_63 ?_
        refine ts_bipush rfl dX10_beside_64 ?_
        refine td_icmp_lt (tgt := 73) rfl dX10_beside_66 ?_ ?_
        · refine ts_iload_n (i := 2) rfl rfl dX10_beside_73 ?_
          refine ts_bipush rfl dX10_beside_74 ?_
          refine ts_iload_n (i := 3) rfl rfl dX10_beside_76 ?_
          refine ts_imul dX10_beside_77 ?_
          refine ts_iadd dX10_beside_78 ?_
          exact td_iret rfl dX10_beside_79
        · refine ts_iconst rfl dX10_beside_69 ?_
          refine ts_goto (tgt := 79) rfl dX10_beside_70 ?_
          exact td_iret rfl dX10_beside_79
def F_X10_beside_22 (v0 : Int) (v1 : Int) (s0 : Int) (s1 : Int) (D : td_D) : Option (Int × td_D) :=
  if v1 = 2 then
    F_X10_beside_47 (tv_w (s0 + s1)) (tv_div v0 10) 1 D
  else
    if v1 = 3 then
      F_X10_beside_47 (tv_w (s0 + s1)) (tv_div v0 10) ((-1)) D
    else
      F_X10_beside_47 (tv_w (s0 + s1)) (tv_div v0 10) 0 D
set_option maxHeartbeats 4000000 in
set_option maxRecDepth 20000 in
theorem S_X10_beside_22 {l : Launch} {E : tv_E} (hE : tv_hE E) (d : Nat) (v0 : Int) (v1 : Int) (s0 : Int) (s1 : Int) (D : td_D) : td_sim l E (d + 0) mX10_beside g_c 22 [tv_I v0, tv_I v1, tv_U, tv_U] [tv_I s1, tv_I s0] D (F_X10_beside_22 v0 v1 s0 s1 D) := by
  unfold F_X10_beside_22
  refine ts_iadd dX10_beside_22 ?_
  refine tq_istore_n [tv_I v0, tv_I v1, tv_I (tv_w (s0 + s1)), tv_U] rfl (Nat.le_of_ble_eq_true rfl) rfl rfl dX10_beside_23 ?_
  refine ts_iload_n (i := 0) rfl rfl dX10_beside_24 ?_
  refine ts_bipush rfl dX10_beside_25 ?_
  refine td_idivK (by decide) dX10_beside_27 ?_
  refine ts_iload_n (i := 1) rfl rfl dX10_beside_28 ?_
  refine ts_iconst rfl dX10_beside_29 ?_
  refine td_icmp_ne (tgt := 37) rfl dX10_beside_30 ?_ ?_
  · refine ts_iconst rfl dX10_beside_33 ?_
    refine ts_goto (tgt := 47) rfl dX10_beside_34 ?_
    refine tv_weak (ls' := [tv_U, tv_U, tv_I (tv_w (s0 + s1)), tv_U]) ⟨Or.inl rfl, Or.inl rfl, Or.inr rfl, Or.inl rfl, trivial⟩ ?_
    exact S_X10_beside_47 hE d (tv_w (s0 + s1)) (tv_div v0 10) 1 D
  · refine ts_iload_n (i := 1) rfl rfl dX10_beside_37 ?_
    refine ts_iconst rfl dX10_beside_38 ?_
    refine td_icmp_ne (tgt := 46) rfl dX10_beside_39 ?_ ?_
    · refine ts_iconst rfl dX10_beside_42 ?_
      refine ts_goto (tgt := 47) rfl dX10_beside_43 ?_
      refine tv_weak (ls' := [tv_U, tv_U, tv_I (tv_w (s0 + s1)), tv_U]) ⟨Or.inl rfl, Or.inl rfl, Or.inr rfl, Or.inl rfl, trivial⟩ ?_
      exact S_X10_beside_47 hE d (tv_w (s0 + s1)) (tv_div v0 10) ((-1)) D
    · refine ts_iconst rfl dX10_beside_46 ?_
      refine tv_weak (ls' := [tv_U, tv_U, tv_I (tv_w (s0 + s1)), tv_U]) ⟨Or.inl rfl, Or.inl rfl, Or.inr rfl, Or.inl rfl, trivial⟩ ?_
      exact S_X10_beside_47 hE d (tv_w (s0 + s1)) (tv_div v0 10) 0 D
def F_X10_beside (a0 : Int) (a1 : Int) (D : td_D) : Option (Int × td_D) :=
  if a1 = 0 then
    F_X10_beside_22 a0 a1 (tv_rem a0 10) 1 D
  else
    if a1 = 1 then
      F_X10_beside_22 a0 a1 (tv_rem a0 10) ((-1)) D
    else
      F_X10_beside_22 a0 a1 (tv_rem a0 10) 0 D
set_option maxHeartbeats 4000000 in
set_option maxRecDepth 20000 in
theorem S_X10_beside (l : Launch) {E : tv_E} (hE : tv_hE E) (d : Nat) (a0 : Int) (a1 : Int) (D : td_D) : td_msim l E (d + 0) mX10_beside g_c [tv_I a0, tv_I a1] D (F_X10_beside a0 a1 D) := by
  refine td_meetL (ls := [tv_I a0, tv_I a1, tv_U, tv_U]) rfl (Nat.le_of_ble_eq_true rfl) rfl ?_
  unfold F_X10_beside
  refine ts_iload_n (i := 0) rfl rfl dX10_beside_0 ?_
  refine ts_bipush rfl dX10_beside_1 ?_
  refine td_iremK (by decide) dX10_beside_3 ?_
  refine ts_iload_n (i := 1) rfl rfl dX10_beside_4 ?_
  refine td_if_ne (tgt := 12) rfl dX10_beside_5 ?_ ?_
  · refine ts_iconst rfl dX10_beside_8 ?_
    refine ts_goto (tgt := 22) rfl dX10_beside_9 ?_
    exact S_X10_beside_22 hE d a0 a1 (tv_rem a0 10) 1 D
  · refine ts_iload_n (i := 1) rfl rfl dX10_beside_12 ?_
    refine ts_iconst rfl dX10_beside_13 ?_
    refine td_icmp_ne (tgt := 21) rfl dX10_beside_14 ?_ ?_
    · refine ts_iconst rfl dX10_beside_17 ?_
      refine ts_goto (tgt := 22) rfl dX10_beside_18 ?_
      exact S_X10_beside_22 hE d a0 a1 (tv_rem a0 10) ((-1)) D
    · refine ts_iconst rfl dX10_beside_21 ?_
      exact S_X10_beside_22 hE d a0 a1 (tv_rem a0 10) 0 D
def F_X10_isSafe (a1 : Int) (a2 : Int) (a3 : Int) (D : td_D) : Option (Int × td_D) :=
  if 0 ≤ a1 ∧ a1 < ((100 : Nat) : Int) then
    if D 24 (Int.toNat a1) = 0 then
      td_b (F_X11_apart a1 a2 D) fun r2 D3 =>
      if r2 ≤ a3 then
        some (0, D3)
      else
        some (1, D3)
    else
      some (0, D)
  else none
set_option maxHeartbeats 4000000 in
set_option maxRecDepth 20000 in
theorem S_X10_isSafe (l : Launch) {E : tv_E} (hE : tv_hE E) (d : Nat) (a1 : Int) (a2 : Int) (a3 : Int) (D : td_D) : td_msim l E (d + 2) mX10_isSafe g_c [tv_R 23, tv_I a1, tv_I a2, tv_I a3] D (F_X10_isSafe a1 a2 a3 D) := by
  refine td_meetL (ls := [tv_R 23, tv_I a1, tv_I a2, tv_I a3]) rfl (Nat.le_of_ble_eq_true rfl) rfl ?_
  unfold F_X10_isSafe
  refine ts_aload_n (i := 0) rfl rfl dX10_isSafe_0 ?_
  refine td_getR (q := 24) tl_X10_9 rfl ga_c_23 rfl dX10_isSafe_1 ?_
  refine ts_iload_n (i := 1) rfl rfl dX10_isSafe_4 ?_
  refine td_guard (fun h1 => ?_)
  refine td_ialdK ga_c_24 (gn_c_24 _) h1 dX10_isSafe_5 ?_
  refine td_if_ne (tgt := 22) rfl dX10_isSafe_6 ?_ ?_
  · refine ts_iload_n (i := 1) rfl rfl dX10_isSafe_9 ?_
    refine ts_iload_n (i := 2) rfl rfl dX10_isSafe_10 ?_
    refine tq_callSN (y2 := mX11_apart) [tv_I a1, tv_I a2] [] (st' := fun r2 => [tv_I r2]) tw_X11_apart tx_X11_apart tl_X10_43 rfl rfl rfl rfl (fun _ => rfl) dX10_isSafe_11 (S_X11_apart l hE _ a1 a2 D) (fun r2 D3 => ?_)
    refine ts_iload_n (i := 3) rfl rfl dX10_isSafe_14 ?_
    refine td_icmp_le (tgt := 22) rfl dX10_isSafe_15 ?_ ?_
    · refine ts_iconst rfl dX10_isSafe_22 ?_
      exact td_zretK (Or.inl rfl) rfl dX10_isSafe_23
    · refine ts_iconst rfl dX10_isSafe_18 ?_
      refine ts_goto (tgt := 23) rfl dX10_isSafe_19 ?_
      exact td_zretK (Or.inr rfl) rfl dX10_isSafe_23
  · refine ts_iconst rfl dX10_isSafe_22 ?_
    exact td_zretK (Or.inl rfl) rfl dX10_isSafe_23
def F_X10_spread_6 : Nat → Int → Int → Int → Int → Int → td_D → Option (Int × td_D)
  | 0, _, _, _, _, _, _ => none
  | n + 1, v1, v3, v4, v5, v6, D =>
    if 4 ≤ v6 then
      some (v5, D)
    else
      td_b (F_X10_beside v1 v6 D) fun r1 D2 =>
      if r1 = (-1) then
        F_X10_spread_6 n v1 v3 v4 v5 (tv_w (v6 + 1)) D2
      else
        if 0 ≤ r1 ∧ r1 < ((100 : Nat) : Int) then
          if D2 25 (Int.toNat r1) = (-1) then
            td_b (F_X10_isSafe r1 v3 v4 D2) fun r4 D5 =>
            if r4 = 0 then
              F_X10_spread_6 n v1 v3 v4 v5 (tv_w (v6 + 1)) D5
            else
              if 100 ≤ v5 then
                F_X10_spread_6 n v1 v3 v4 v5 (tv_w (v6 + 1)) D5
              else
                if 0 ≤ v1 ∧ v1 < ((100 : Nat) : Int) then
                  td_l (td_upd D5 25 (Int.toNat r1) (tv_w ((D5 25 (Int.toNat v1)) + 1))) fun D7 =>
                  if 0 ≤ v5 ∧ v5 < ((100 : Nat) : Int) then
                    td_l (td_upd D7 26 (Int.toNat v5) r1) fun D9 =>
                    F_X10_spread_6 n v1 v3 v4 (tv_w (v5 + 1)) (tv_w (v6 + 1)) D9
                  else none
                else none
          else
            F_X10_spread_6 n v1 v3 v4 v5 (tv_w (v6 + 1)) D2
        else none
set_option maxHeartbeats 4000000 in
set_option maxRecDepth 20000 in
theorem S_X10_spread_6 {l : Launch} {E : tv_E} (hE : tv_hE E) (d : Nat) : ∀ (n : Nat) (v1 : Int) (v3 : Int) (v4 : Int) (v5 : Int) (v6 : Int) (D : td_D), td_sim l E (d + 3) mX10_spread g_c 6 [tv_R 23, tv_I v1, tv_U, tv_I v3, tv_I v4, tv_I v5, tv_I v6, tv_U] [] D (F_X10_spread_6 n v1 v3 v4 v5 v6 D) := by
  intro n
  induction n with
  | zero => intros; exact tv_none
  | succ n ih =>
    intro v1 v3 v4 v5 v6 D
    show td_sim _ _ _ _ _ _ _ _ _ (F_X10_spread_6 (n + 1) v1 v3 v4 v5 v6 D)
    unfold F_X10_spread_6
    refine ts_iload rfl dX10_spread_6 ?_
    refine ts_iconst rfl dX10_spread_8 ?_
    refine td_icmp_ge (tgt := 89) rfl dX10_spread_9 ?_ ?_
    · refine ts_iload rfl dX10_spread_89 ?_
      exact td_iret rfl dX10_spread_91
    · refine ts_iload_n (i := 1) rfl rfl dX10_spread_12 ?_
      refine ts_iload rfl dX10_spread_13 ?_
      refine tq_callS (y2 := mX10_beside) [tv_I v1, tv_I v6] [] (st' := fun r1 => [tv_I r1]) tw_X10_beside tx_X10_beside tl_X10_55 rfl rfl rfl rfl (fun _ => rfl) dX10_spread_15 (S_X10_beside l hE _ v1 v6 D) (fun r1 D2 => ?_)
      refine tq_istore [tv_R 23, tv_I v1, tv_U, tv_I v3, tv_I v4, tv_I v5, tv_I v6, tv_I r1] (Nat.le_of_ble_eq_true rfl) rfl rfl dX10_spread_18 ?_
      refine ts_iload rfl dX10_spread_20 ?_
      refine ts_iconst rfl dX10_spread_22 ?_
      refine td_icmp_eq (tgt := 83) rfl dX10_spread_23 ?_ ?_
      · refine tq_iinc [tv_R 23, tv_I v1, tv_U, tv_I v3, tv_I v4, tv_I v5, tv_I (tv_w (v6 + 1)), tv_I r1] rfl rfl rfl dX10_spread_83 ?_
        refine ts_goto (tgt := 6) rfl dX10_spread_86 ?_
        refine tv_weak (ls' := [tv_R 23, tv_I v1, tv_U, tv_I v3, tv_I v4, tv_I v5, tv_I (tv_w (v6 + 1)), tv_U]) ⟨Or.inr rfl, Or.inr rfl, Or.inl rfl, Or.inr rfl, Or.inr rfl, Or.inr rfl, Or.inr rfl, Or.inl rfl, trivial⟩ ?_
        exact ih v1 v3 v4 v5 (tv_w (v6 + 1)) D2
      · refine ts_aload_n (i := 0) rfl rfl dX10_spread_26 ?_
        refine td_getR (q := 25) tl_X10_15 rfl ga_c_23 rfl dX10_spread_27 ?_
        refine ts_iload rfl dX10_spread_30 ?_
        refine td_guard (fun h3 => ?_)
        refine td_ialdK ga_c_25 (gn_c_25 _) h3 dX10_spread_32 ?_
        refine ts_iconst rfl dX10_spread_33 ?_
        refine td_icmp_ne (tgt := 83) rfl dX10_spread_34 ?_ ?_
        · refine ts_aload_n (i := 0) rfl rfl dX10_spread_37 ?_
          refine ts_iload rfl dX10_spread_38 ?_
          refine ts_iload_n (i := 3) rfl rfl dX10_spread_40 ?_
          refine ts_iload rfl dX10_spread_41 ?_
          refine tq_callV (y2 := mX10_isSafe) [tv_I r1, tv_I v3, tv_I v4] [] 23 (st' := fun r4 => [tv_I r4]) tw_X10_isSafe tx_X10_isSafe tw_c10 ga_c_23 tl_X10_47 rfl rfl rfl rfl (fun _ => rfl) dX10_spread_43 (S_X10_isSafe l hE _ r1 v3 v4 D2) (fun r4 D5 => ?_)
          refine td_if_eq (tgt := 83) rfl dX10_spread_46 ?_ ?_
          · refine tq_iinc [tv_R 23, tv_I v1, tv_U, tv_I v3, tv_I v4, tv_I v5, tv_I (tv_w (v6 + 1)), tv_I r1] rfl rfl rfl dX10_spread_83 ?_
            refine ts_goto (tgt := 6) rfl dX10_spread_86 ?_
            refine tv_weak (ls' := [tv_R 23, tv_I v1, tv_U, tv_I v3, tv_I v4, tv_I v5, tv_I (tv_w (v6 + 1)), tv_U]) ⟨Or.inr rfl, Or.inr rfl, Or.inl rfl, Or.inr rfl, Or.inr rfl, Or.inr rfl, Or.inr rfl, Or.inl rfl, trivial⟩ ?_
            exact ih v1 v3 v4 v5 (tv_w (v6 + 1)) D5
          · refine ts_iload rfl dX10_spread_49 ?_
            refine ts_bipush rfl dX10_spread_51 ?_
            refine td_icmp_ge (tgt := 83) rfl dX10_spread_53 ?_ ?_
            · refine tq_iinc [tv_R 23, tv_I v1, tv_U, tv_I v3, tv_I v4, tv_I v5, tv_I (tv_w (v6 + 1)), tv_I r1] rfl rfl rfl dX10_spread_83 ?_
              refine ts_goto (tgt := 6) rfl dX10_spread_86 ?_
              refine tv_weak (ls' := [tv_R 23, tv_I v1, tv_U, tv_I v3, tv_I v4, tv_I v5, tv_I (tv_w (v6 + 1)), tv_U]) ⟨Or.inr rfl, Or.inr rfl, Or.inl rfl, Or.inr rfl, Or.inr rfl, Or.inr rfl, Or.inr rfl, Or.inl rfl, trivial⟩ ?_
              exact ih v1 v3 v4 v5 (tv_w (v6 + 1)) D5
            · refine ts_aload_n (i := 0) rfl rfl dX10_spread_56 ?_
              refine td_getR (q := 25) tl_X10_15 rfl ga_c_23 rfl dX10_spread_57 ?_
              refine ts_iload rfl dX10_spread_60 ?_
              refine ts_aload_n (i := 0) rfl rfl dX10_spread_62 ?_
              refine td_getR (q := 25) tl_X10_15 rfl ga_c_23 rfl dX10_spread_63 ?_
              refine ts_iload_n (i := 1) rfl rfl dX10_spread_66 ?_
              refine td_guard (fun h6 => ?_)
              refine td_ialdK ga_c_25 (gn_c_25 _) h6 dX10_spread_67 ?_
              refine ts_iconst rfl dX10_spread_68 ?_
              refine ts_iadd dX10_spread_69 ?_
              refine td_iastK ga_c_25 (gn_c_25 _) h3 dX10_spread_70 ?_
              refine td_let (fun D7 => ?_)
              refine ts_aload_n (i := 0) rfl rfl dX10_spread_71 ?_
              refine td_getR (q := 26) tl_X10_18 rfl ga_c_23 rfl dX10_spread_72 ?_
              refine ts_iload rfl dX10_spread_75 ?_
              refine ts_iload rfl dX10_spread_77 ?_
              refine td_guard (fun h8 => ?_)
              refine td_iastK ga_c_26 (gn_c_26 _) h8 dX10_spread_79 ?_
              refine td_let (fun D9 => ?_)
              refine tq_iinc [tv_R 23, tv_I v1, tv_U, tv_I v3, tv_I v4, tv_I (tv_w (v5 + 1)), tv_I v6, tv_I r1] rfl rfl rfl dX10_spread_80 ?_
              refine tq_iinc [tv_R 23, tv_I v1, tv_U, tv_I v3, tv_I v4, tv_I (tv_w (v5 + 1)), tv_I (tv_w (v6 + 1)), tv_I r1] rfl rfl rfl dX10_spread_83 ?_
              refine ts_goto (tgt := 6) rfl dX10_spread_86 ?_
              refine tv_weak (ls' := [tv_R 23, tv_I v1, tv_U, tv_I v3, tv_I v4, tv_I (tv_w (v5 + 1)), tv_I (tv_w (v6 + 1)), tv_U]) ⟨Or.inr rfl, Or.inr rfl, Or.inl rfl, Or.inr rfl, Or.inr rfl, Or.inr rfl, Or.inr rfl, Or.inl rfl, trivial⟩ ?_
              exact ih v1 v3 v4 (tv_w (v5 + 1)) (tv_w (v6 + 1)) D9
        · refine tq_iinc [tv_R 23, tv_I v1, tv_U, tv_I v3, tv_I v4, tv_I v5, tv_I (tv_w (v6 + 1)), tv_I r1] rfl rfl rfl dX10_spread_83 ?_
          refine ts_goto (tgt := 6) rfl dX10_spread_86 ?_
          refine tv_weak (ls' := [tv_R 23, tv_I v1, tv_U, tv_I v3, tv_I v4, tv_I v5, tv_I (tv_w (v6 + 1)), tv_U]) ⟨Or.inr rfl, Or.inr rfl, Or.inl rfl, Or.inr rfl, Or.inr rfl, Or.inr rfl, Or.inr rfl, Or.inl rfl, trivial⟩ ?_
          exact ih v1 v3 v4 v5 (tv_w (v6 + 1)) D2
def F_X10_spread (a1 : Int) (a2 : Int) (a3 : Int) (a4 : Int) (D : td_D) : Option (Int × td_D) :=
  F_X10_spread_6 tf_N a1 a3 a4 a2 0 D
set_option maxHeartbeats 4000000 in
set_option maxRecDepth 20000 in
theorem S_X10_spread (l : Launch) {E : tv_E} (hE : tv_hE E) (d : Nat) (a1 : Int) (a2 : Int) (a3 : Int) (a4 : Int) (D : td_D) : td_msim l E (d + 3) mX10_spread g_c [tv_R 23, tv_I a1, tv_I a2, tv_I a3, tv_I a4] D (F_X10_spread a1 a2 a3 a4 D) := by
  refine td_meetL (ls := [tv_R 23, tv_I a1, tv_I a2, tv_I a3, tv_I a4, tv_U, tv_U, tv_U]) rfl (Nat.le_of_ble_eq_true rfl) rfl ?_
  unfold F_X10_spread
  refine ts_iload_n (i := 2) rfl rfl dX10_spread_0 ?_
  refine tq_istore [tv_R 23, tv_I a1, tv_I a2, tv_I a3, tv_I a4, tv_I a2, tv_U, tv_U] (Nat.le_of_ble_eq_true rfl) rfl rfl dX10_spread_1 ?_
  refine ts_iconst rfl dX10_spread_3 ?_
  refine tq_istore [tv_R 23, tv_I a1, tv_I a2, tv_I a3, tv_I a4, tv_I a2, tv_I 0, tv_U] (Nat.le_of_ble_eq_true rfl) rfl rfl dX10_spread_4 ?_
  refine tv_weak (ls' := [tv_R 23, tv_I a1, tv_U, tv_I a3, tv_I a4, tv_I a2, tv_I 0, tv_U]) ⟨Or.inr rfl, Or.inr rfl, Or.inl rfl, Or.inr rfl, Or.inr rfl, Or.inr rfl, Or.inr rfl, Or.inl rfl, trivial⟩ ?_
  exact S_X10_spread_6 hE d tf_N a1 a3 a4 a2 0 D
def F_X10_steps_117 (v2 : Int) (D : td_D) : Option (Int × td_D) :=
  if 0 ≤ v2 ∧ v2 < ((100 : Nat) : Int) then
    if D 25 (Int.toNat v2) = (-1) then
      some ((-2), D)
    else
      some (D 25 (Int.toNat v2), D)
  else none
set_option maxHeartbeats 4000000 in
set_option maxRecDepth 20000 in
theorem S_X10_steps_117 {l : Launch} {E : tv_E} (hE : tv_hE E) (d : Nat) (v2 : Int) (D : td_D) : td_sim l E (d + 4) mX10_steps g_c 117 [tv_R 23, tv_U, tv_I v2, tv_U, tv_U, tv_U, tv_U] [] D (F_X10_steps_117 v2 D) := by
  unfold F_X10_steps_117
  refine ts_aload_n (i := 0) rfl rfl dX10_steps_117 ?_
  refine td_getR (q := 25) tl_X10_15 rfl ga_c_23 rfl dX10_steps_118 ?_
  refine ts_iload_n (i := 2) rfl rfl dX10_steps_121 ?_
  refine td_guard (fun h1 => ?_)
  refine td_ialdK ga_c_25 (gn_c_25 _) h1 dX10_steps_122 ?_
  refine ts_iconst rfl dX10_steps_123 ?_
  refine td_icmp_ne (tgt := 132) rfl dX10_steps_124 ?_ ?_
  · refine ts_bipush rfl dX10_steps_127 ?_
    refine ts_goto (tgt := 138) rfl dX10_steps_129 ?_
    exact td_iret rfl dX10_steps_138
  · refine ts_aload_n (i := 0) rfl rfl dX10_steps_132 ?_
    refine td_getR (q := 25) tl_X10_15 rfl ga_c_23 rfl dX10_steps_133 ?_
    refine ts_iload_n (i := 2) rfl rfl dX10_steps_136 ?_
    refine td_ialdK ga_c_25 (gn_c_25 _) h1 dX10_steps_137 ?_
    exact td_iret rfl dX10_steps_138
def F_X10_steps_69 : Nat → Int → Int → Int → Int → Int → td_D → Option (Int × td_D)
  | 0, _, _, _, _, _, _ => none
  | n + 1, v2, v3, v4, v5, v6, D =>
    if 100 ≤ v6 then
      F_X10_steps_117 v2 D
    else
      if v5 ≤ v6 then
        F_X10_steps_117 v2 D
      else
        if 0 ≤ v2 ∧ v2 < ((100 : Nat) : Int) then
          if D 25 (Int.toNat v2) = (-1) then
            if 0 ≤ v6 ∧ v6 < ((100 : Nat) : Int) then
              td_b (F_X10_spread (D 26 (Int.toNat v6)) v5 v3 v4 D) fun r4 D5 =>
              F_X10_steps_69 n v2 v3 v4 r4 (tv_w (v6 + 1)) D5
            else none
          else
            F_X10_steps_117 v2 D
        else none
set_option maxHeartbeats 4000000 in
set_option maxRecDepth 20000 in
theorem S_X10_steps_69 {l : Launch} {E : tv_E} (hE : tv_hE E) (d : Nat) : ∀ (n : Nat) (v2 : Int) (v3 : Int) (v4 : Int) (v5 : Int) (v6 : Int) (D : td_D), td_sim l E (d + 4) mX10_steps g_c 69 [tv_R 23, tv_U, tv_I v2, tv_I v3, tv_I v4, tv_I v5, tv_I v6] [] D (F_X10_steps_69 n v2 v3 v4 v5 v6 D) := by
  intro n
  induction n with
  | zero => intros; exact tv_none
  | succ n ih =>
    intro v2 v3 v4 v5 v6 D
    show td_sim _ _ _ _ _ _ _ _ _ (F_X10_steps_69 (n + 1) v2 v3 v4 v5 v6 D)
    unfold F_X10_steps_69
    refine ts_iload rfl dX10_steps_69 ?_
    refine ts_bipush rfl dX10_steps_71 ?_
    refine td_icmp_ge (tgt := 117) rfl dX10_steps_73 ?_ ?_
    · refine tv_weak (ls' := [tv_R 23, tv_U, tv_I v2, tv_U, tv_U, tv_U, tv_U]) ⟨Or.inr rfl, Or.inl rfl, Or.inr rfl, Or.inl rfl, Or.inl rfl, Or.inl rfl, Or.inl rfl, trivial⟩ ?_
      exact S_X10_steps_117 hE d v2 D
    · refine ts_iload rfl dX10_steps_76 ?_
      refine ts_iload rfl dX10_steps_78 ?_
      refine td_icmp_ge (tgt := 117) rfl dX10_steps_80 ?_ ?_
      · refine tv_weak (ls' := [tv_R 23, tv_U, tv_I v2, tv_U, tv_U, tv_U, tv_U]) ⟨Or.inr rfl, Or.inl rfl, Or.inr rfl, Or.inl rfl, Or.inl rfl, Or.inl rfl, Or.inl rfl, trivial⟩ ?_
        exact S_X10_steps_117 hE d v2 D
      · refine ts_aload_n (i := 0) rfl rfl dX10_steps_83 ?_
        refine td_getR (q := 25) tl_X10_15 rfl ga_c_23 rfl dX10_steps_84 ?_
        refine ts_iload_n (i := 2) rfl rfl dX10_steps_87 ?_
        refine td_guard (fun h2 => ?_)
        refine td_ialdK ga_c_25 (gn_c_25 _) h2 dX10_steps_88 ?_
        refine ts_iconst rfl dX10_steps_89 ?_
        refine td_icmp_ne (tgt := 117) rfl dX10_steps_90 ?_ ?_
        · refine ts_aload_n (i := 0) rfl rfl dX10_steps_93 ?_
          refine ts_aload_n (i := 0) rfl rfl dX10_steps_94 ?_
          refine td_getR (q := 26) tl_X10_18 rfl ga_c_23 rfl dX10_steps_95 ?_
          refine ts_iload rfl dX10_steps_98 ?_
          refine td_guard (fun h3 => ?_)
          refine td_ialdK ga_c_26 (gn_c_26 _) h3 dX10_steps_100 ?_
          refine ts_iload rfl dX10_steps_101 ?_
          refine ts_iload_n (i := 3) rfl rfl dX10_steps_103 ?_
          refine ts_iload rfl dX10_steps_104 ?_
          refine tq_callV (y2 := mX10_spread) [tv_I (D 26 (Int.toNat v6)), tv_I v5, tv_I v3, tv_I v4] [] 23 (st' := fun r4 => [tv_I r4]) tw_X10_spread tx_X10_spread tw_c10 ga_c_23 tl_X10_51 rfl rfl rfl rfl (fun _ => rfl) dX10_steps_106 (S_X10_spread l hE _ (D 26 (Int.toNat v6)) v5 v3 v4 D) (fun r4 D5 => ?_)
          refine tq_istore [tv_R 23, tv_U, tv_I v2, tv_I v3, tv_I v4, tv_I r4, tv_I v6] (Nat.le_of_ble_eq_true rfl) rfl rfl dX10_steps_109 ?_
          refine tq_iinc [tv_R 23, tv_U, tv_I v2, tv_I v3, tv_I v4, tv_I r4, tv_I (tv_w (v6 + 1))] rfl rfl rfl dX10_steps_111 ?_
          refine ts_goto (tgt := 69) rfl dX10_steps_114 ?_
          exact ih v2 v3 v4 r4 (tv_w (v6 + 1)) D5
        · refine tv_weak (ls' := [tv_R 23, tv_U, tv_I v2, tv_U, tv_U, tv_U, tv_U]) ⟨Or.inr rfl, Or.inl rfl, Or.inr rfl, Or.inl rfl, Or.inl rfl, Or.inl rfl, Or.inl rfl, trivial⟩ ?_
          exact S_X10_steps_117 hE d v2 D
def F_X10_steps_28 : Nat → Int → Int → Int → Int → Int → td_D → Option (Int × td_D)
  | 0, _, _, _, _, _, _ => none
  | n + 1, v1, v2, v3, v4, v5, D =>
    if 100 ≤ v5 then
      if 0 ≤ v1 ∧ v1 < ((100 : Nat) : Int) then
        td_l (td_upd D 25 (Int.toNat v1) 0) fun D7 =>
        td_l (td_upd D7 26 (Int.toNat 0) v1) fun D8 =>
        F_X10_steps_69 tf_N v2 v3 v4 1 0 D8
      else none
    else
      if 0 ≤ v5 ∧ v5 < ((100 : Nat) : Int) then
        td_l (td_upd D 25 (Int.toNat v5) ((-1))) fun D10 =>
        F_X10_steps_28 n v1 v2 v3 v4 (tv_w (v5 + 1)) D10
      else none
set_option maxHeartbeats 4000000 in
set_option maxRecDepth 20000 in
theorem S_X10_steps_28 {l : Launch} {E : tv_E} (hE : tv_hE E) (d : Nat) : ∀ (n : Nat) (v1 : Int) (v2 : Int) (v3 : Int) (v4 : Int) (v5 : Int) (D : td_D), td_sim l E (d + 4) mX10_steps g_c 28 [tv_R 23, tv_I v1, tv_I v2, tv_I v3, tv_I v4, tv_I v5, tv_U] [] D (F_X10_steps_28 n v1 v2 v3 v4 v5 D) := by
  intro n
  induction n with
  | zero => intros; exact tv_none
  | succ n ih =>
    intro v1 v2 v3 v4 v5 D
    show td_sim _ _ _ _ _ _ _ _ _ (F_X10_steps_28 (n + 1) v1 v2 v3 v4 v5 D)
    unfold F_X10_steps_28
    refine ts_iload rfl dX10_steps_28 ?_
    refine ts_bipush rfl dX10_steps_30 ?_
    refine td_icmp_ge (tgt := 49) rfl dX10_steps_32 ?_ ?_
    · refine ts_aload_n (i := 0) rfl rfl dX10_steps_49 ?_
      refine td_getR (q := 25) tl_X10_15 rfl ga_c_23 rfl dX10_steps_50 ?_
      refine ts_iload_n (i := 1) rfl rfl dX10_steps_53 ?_
      refine ts_iconst rfl dX10_steps_54 ?_
      refine td_guard (fun h6 => ?_)
      refine td_iastK ga_c_25 (gn_c_25 _) h6 dX10_steps_55 ?_
      refine td_let (fun D7 => ?_)
      refine ts_aload_n (i := 0) rfl rfl dX10_steps_56 ?_
      refine td_getR (q := 26) tl_X10_18 rfl ga_c_23 rfl dX10_steps_57 ?_
      refine ts_iconst rfl dX10_steps_60 ?_
      refine ts_iload_n (i := 1) rfl rfl dX10_steps_61 ?_
      refine td_iastK ga_c_26 (gn_c_26 _) ⟨by decide, by decide⟩ dX10_steps_62 ?_
      refine td_let (fun D8 => ?_)
      refine ts_iconst rfl dX10_steps_63 ?_
      refine tq_istore [tv_R 23, tv_I v1, tv_I v2, tv_I v3, tv_I v4, tv_I 1, tv_U] (Nat.le_of_ble_eq_true rfl) rfl rfl dX10_steps_64 ?_
      refine ts_iconst rfl dX10_steps_66 ?_
      refine tq_istore [tv_R 23, tv_I v1, tv_I v2, tv_I v3, tv_I v4, tv_I 1, tv_I 0] (Nat.le_of_ble_eq_true rfl) rfl rfl dX10_steps_67 ?_
      refine tv_weak (ls' := [tv_R 23, tv_U, tv_I v2, tv_I v3, tv_I v4, tv_I 1, tv_I 0]) ⟨Or.inr rfl, Or.inl rfl, Or.inr rfl, Or.inr rfl, Or.inr rfl, Or.inr rfl, Or.inr rfl, trivial⟩ ?_
      exact S_X10_steps_69 hE d tf_N v2 v3 v4 1 0 D8
    · refine ts_aload_n (i := 0) rfl rfl dX10_steps_35 ?_
      refine td_getR (q := 25) tl_X10_15 rfl ga_c_23 rfl dX10_steps_36 ?_
      refine ts_iload rfl dX10_steps_39 ?_
      refine ts_iconst rfl dX10_steps_41 ?_
      refine td_guard (fun h9 => ?_)
      refine td_iastK ga_c_25 (gn_c_25 _) h9 dX10_steps_42 ?_
      refine td_let (fun D10 => ?_)
      refine tq_iinc [tv_R 23, tv_I v1, tv_I v2, tv_I v3, tv_I v4, tv_I (tv_w (v5 + 1)), tv_U] rfl rfl rfl dX10_steps_43 ?_
      refine ts_goto (tgt := 28) rfl dX10_steps_46 ?_
      exact ih v1 v2 v3 v4 (tv_w (v5 + 1)) D10
def F_X10_steps (a1 : Int) (a2 : Int) (a3 : Int) (a4 : Int) (D : td_D) : Option (Int × td_D) :=
  td_b (F_X10_isSafe a1 a3 a4 D) fun r11 D12 =>
  if r11 = 0 then
    some ((-2), D12)
  else
    td_b (F_X10_isSafe a2 a3 a4 D12) fun r13 D14 =>
    if r13 = 0 then
      some ((-2), D14)
    else
      F_X10_steps_28 tf_N a1 a2 a3 a4 0 D14
set_option maxHeartbeats 4000000 in
set_option maxRecDepth 20000 in
theorem S_X10_steps (l : Launch) {E : tv_E} (hE : tv_hE E) (d : Nat) (a1 : Int) (a2 : Int) (a3 : Int) (a4 : Int) (D : td_D) : td_msim l E (d + 4) mX10_steps g_c [tv_R 23, tv_I a1, tv_I a2, tv_I a3, tv_I a4] D (F_X10_steps a1 a2 a3 a4 D) := by
  refine td_meetL (ls := [tv_R 23, tv_I a1, tv_I a2, tv_I a3, tv_I a4, tv_U, tv_U]) rfl (Nat.le_of_ble_eq_true rfl) rfl ?_
  unfold F_X10_steps
  refine ts_aload_n (i := 0) rfl rfl dX10_steps_0 ?_
  refine ts_iload_n (i := 1) rfl rfl dX10_steps_1 ?_
  refine ts_iload_n (i := 3) rfl rfl dX10_steps_2 ?_
  refine ts_iload rfl dX10_steps_3 ?_
  refine tq_callV (y2 := mX10_isSafe) [tv_I a1, tv_I a3, tv_I a4] [] 23 (st' := fun r11 => [tv_I r11]) tw_X10_isSafe tx_X10_isSafe tw_c10 ga_c_23 tl_X10_47 rfl rfl rfl rfl (fun _ => rfl) dX10_steps_5 (S_X10_isSafe l hE _ a1 a3 a4 D) (fun r11 D12 => ?_)
  refine td_if_eq (tgt := 22) rfl dX10_steps_8 ?_ ?_
  · refine ts_bipush rfl dX10_steps_22 ?_
    exact td_iret rfl dX10_steps_24
  · refine ts_aload_n (i := 0) rfl rfl dX10_steps_11 ?_
    refine ts_iload_n (i := 2) rfl rfl dX10_steps_12 ?_
    refine ts_iload_n (i := 3) rfl rfl dX10_steps_13 ?_
    refine ts_iload rfl dX10_steps_14 ?_
    refine tq_callV (y2 := mX10_isSafe) [tv_I a2, tv_I a3, tv_I a4] [] 23 (st' := fun r13 => [tv_I r13]) tw_X10_isSafe tx_X10_isSafe tw_c10 ga_c_23 tl_X10_47 rfl rfl rfl rfl (fun _ => rfl) dX10_steps_16 (S_X10_isSafe l hE _ a2 a3 a4 D12) (fun r13 D14 => ?_)
    refine td_if_ne (tgt := 25) rfl dX10_steps_19 ?_ ?_
    · refine ts_bipush rfl dX10_steps_22 ?_
      exact td_iret rfl dX10_steps_24
    · refine ts_iconst rfl dX10_steps_25 ?_
      refine tq_istore [tv_R 23, tv_I a1, tv_I a2, tv_I a3, tv_I a4, tv_I 0, tv_U] (Nat.le_of_ble_eq_true rfl) rfl rfl dX10_steps_26 ?_
      exact S_X10_steps_28 hE d tf_N a1 a2 a3 a4 0 D14
def F_X10_bestCell_19 : Nat → Int → Int → Int → Int → Int → Int → Int → td_D → Option (Int × td_D)
  | 0, _, _, _, _, _, _, _, _ => none
  | n + 1, v1, v2, v3, v4, v5, v6, v7, D =>
    if 100 ≤ v7 then
      some (v5, D)
    else
      if v4 = (-2) then
        some (v5, D)
      else
        td_b (F_X10_cellsWithin v7 v3 D) fun r1 D2 =>
        if r1 ≤ v6 then
          F_X10_bestCell_19 n v1 v2 v3 v4 v5 v6 (tv_w (v7 + 1)) D2
        else
          td_b (F_X10_steps v1 v2 v7 v3 D2) fun r3 D4 =>
          if r3 = v4 then
            F_X10_bestCell_19 n v1 v2 v3 v4 v7 r1 (tv_w (v7 + 1)) D4
          else
            F_X10_bestCell_19 n v1 v2 v3 v4 v5 v6 (tv_w (v7 + 1)) D4
set_option maxHeartbeats 4000000 in
set_option maxRecDepth 20000 in
theorem S_X10_bestCell_19 {l : Launch} {E : tv_E} (hE : tv_hE E) (d : Nat) : ∀ (n : Nat) (v1 : Int) (v2 : Int) (v3 : Int) (v4 : Int) (v5 : Int) (v6 : Int) (v7 : Int) (D : td_D), td_sim l E (d + 5) mX10_bestCell g_c 19 [tv_R 23, tv_I v1, tv_I v2, tv_I v3, tv_I v4, tv_I v5, tv_I v6, tv_I v7, tv_U] [] D (F_X10_bestCell_19 n v1 v2 v3 v4 v5 v6 v7 D) := by
  intro n
  induction n with
  | zero => intros; exact tv_none
  | succ n ih =>
    intro v1 v2 v3 v4 v5 v6 v7 D
    show td_sim _ _ _ _ _ _ _ _ _ (F_X10_bestCell_19 (n + 1) v1 v2 v3 v4 v5 v6 v7 D)
    unfold F_X10_bestCell_19
    refine ts_iload rfl dX10_bestCell_19 ?_
    refine ts_bipush rfl dX10_bestCell_21 ?_
    refine td_icmp_ge (tgt := 76) rfl dX10_bestCell_23 ?_ ?_
    · refine ts_iload rfl dX10_bestCell_76 ?_
      exact td_iret rfl dX10_bestCell_78
    · refine ts_iload rfl dX10_bestCell_26 ?_
      refine ts_bipush rfl dX10_bestCell_28 ?_
      refine td_icmp_eq (tgt := 76) rfl dX10_bestCell_30 ?_ ?_
      · refine ts_iload rfl dX10_bestCell_76 ?_
        exact td_iret rfl dX10_bestCell_78
      · refine ts_iload rfl dX10_bestCell_33 ?_
        refine ts_iload_n (i := 3) rfl rfl dX10_bestCell_35 ?_
        refine tq_callS (y2 := mX10_cellsWithin) [tv_I v7, tv_I v3] [] (st' := fun r1 => [tv_I r1]) tw_X10_cellsWithin tx_X10_cellsWithin tl_X10_61 rfl rfl rfl rfl (fun _ => rfl) dX10_bestCell_36 (S_X10_cellsWithin l hE _ v7 v3 D) (fun r1 D2 => ?_)
        refine tq_istore [tv_R 23, tv_I v1, tv_I v2, tv_I v3, tv_I v4, tv_I v5, tv_I v6, tv_I v7, tv_I r1] (Nat.le_of_ble_eq_true rfl) rfl rfl dX10_bestCell_39 ?_
        refine ts_iload rfl dX10_bestCell_41 ?_
        refine ts_iload rfl dX10_bestCell_43 ?_
        refine td_icmp_le (tgt := 70) rfl dX10_bestCell_45 ?_ ?_
        · refine tq_iinc [tv_R 23, tv_I v1, tv_I v2, tv_I v3, tv_I v4, tv_I v5, tv_I v6, tv_I (tv_w (v7 + 1)), tv_I r1] rfl rfl rfl dX10_bestCell_70 ?_
          refine ts_goto (tgt := 19) rfl dX10_bestCell_73 ?_
          refine tv_weak (ls' := [tv_R 23, tv_I v1, tv_I v2, tv_I v3, tv_I v4, tv_I v5, tv_I v6, tv_I (tv_w (v7 + 1)), tv_U]) ⟨Or.inr rfl, Or.inr rfl, Or.inr rfl, Or.inr rfl, Or.inr rfl, Or.inr rfl, Or.inr rfl, Or.inr rfl, Or.inl rfl, trivial⟩ ?_
          exact ih v1 v2 v3 v4 v5 v6 (tv_w (v7 + 1)) D2
        · refine ts_aload_n (i := 0) rfl rfl dX10_bestCell_48 ?_
          refine ts_iload_n (i := 1) rfl rfl dX10_bestCell_49 ?_
          refine ts_iload_n (i := 2) rfl rfl dX10_bestCell_50 ?_
          refine ts_iload rfl dX10_bestCell_51 ?_
          refine ts_iload_n (i := 3) rfl rfl dX10_bestCell_53 ?_
          refine tq_callV (y2 := mX10_steps) [tv_I v1, tv_I v2, tv_I v7, tv_I v3] [] 23 (st' := fun r3 => [tv_I r3]) tw_X10_steps tx_X10_steps tw_c10 ga_c_23 tl_X10_58 rfl rfl rfl rfl (fun _ => rfl) dX10_bestCell_54 (S_X10_steps l hE _ v1 v2 v7 v3 D2) (fun r3 D4 => ?_)
          refine ts_iload rfl dX10_bestCell_57 ?_
          refine td_icmp_ne (tgt := 70) rfl dX10_bestCell_59 ?_ ?_
          · refine ts_iload rfl dX10_bestCell_62 ?_
            refine tq_istore [tv_R 23, tv_I v1, tv_I v2, tv_I v3, tv_I v4, tv_I v7, tv_I v6, tv_I v7, tv_I r1] (Nat.le_of_ble_eq_true rfl) rfl rfl dX10_bestCell_64 ?_
            refine ts_iload rfl dX10_bestCell_66 ?_
            refine tq_istore [tv_R 23, tv_I v1, tv_I v2, tv_I v3, tv_I v4, tv_I v7, tv_I r1, tv_I v7, tv_I r1] (Nat.le_of_ble_eq_true rfl) rfl rfl dX10_bestCell_68 ?_
            refine tq_iinc [tv_R 23, tv_I v1, tv_I v2, tv_I v3, tv_I v4, tv_I v7, tv_I r1, tv_I (tv_w (v7 + 1)), tv_I r1] rfl rfl rfl dX10_bestCell_70 ?_
            refine ts_goto (tgt := 19) rfl dX10_bestCell_73 ?_
            refine tv_weak (ls' := [tv_R 23, tv_I v1, tv_I v2, tv_I v3, tv_I v4, tv_I v7, tv_I r1, tv_I (tv_w (v7 + 1)), tv_U]) ⟨Or.inr rfl, Or.inr rfl, Or.inr rfl, Or.inr rfl, Or.inr rfl, Or.inr rfl, Or.inr rfl, Or.inr rfl, Or.inl rfl, trivial⟩ ?_
            exact ih v1 v2 v3 v4 v7 r1 (tv_w (v7 + 1)) D4
          · refine tq_iinc [tv_R 23, tv_I v1, tv_I v2, tv_I v3, tv_I v4, tv_I v5, tv_I v6, tv_I (tv_w (v7 + 1)), tv_I r1] rfl rfl rfl dX10_bestCell_70 ?_
            refine ts_goto (tgt := 19) rfl dX10_bestCell_73 ?_
            refine tv_weak (ls' := [tv_R 23, tv_I v1, tv_I v2, tv_I v3, tv_I v4, tv_I v5, tv_I v6, tv_I (tv_w (v7 + 1)), tv_U]) ⟨Or.inr rfl, Or.inr rfl, Or.inr rfl, Or.inr rfl, Or.inr rfl, Or.inr rfl, Or.inr rfl, Or.inr rfl, Or.inl rfl, trivial⟩ ?_
            exact ih v1 v2 v3 v4 v5 v6 (tv_w (v7 + 1)) D4
def F_X10_bestCell (a1 : Int) (a2 : Int) (a3 : Int) (D : td_D) : Option (Int × td_D) :=
  td_b (F_X10_steps a1 a2 0 ((-1)) D) fun r5 D6 =>
  F_X10_bestCell_19 tf_N a1 a2 a3 r5 ((-1)) ((-1)) 0 D6
set_option maxHeartbeats 4000000 in
set_option maxRecDepth 20000 in
theorem S_X10_bestCell (l : Launch) {E : tv_E} (hE : tv_hE E) (d : Nat) (a1 : Int) (a2 : Int) (a3 : Int) (D : td_D) : td_msim l E (d + 5) mX10_bestCell g_c [tv_R 23, tv_I a1, tv_I a2, tv_I a3] D (F_X10_bestCell a1 a2 a3 D) := by
  refine td_meetL (ls := [tv_R 23, tv_I a1, tv_I a2, tv_I a3, tv_U, tv_U, tv_U, tv_U, tv_U]) rfl (Nat.le_of_ble_eq_true rfl) rfl ?_
  unfold F_X10_bestCell
  refine ts_aload_n (i := 0) rfl rfl dX10_bestCell_0 ?_
  refine ts_iload_n (i := 1) rfl rfl dX10_bestCell_1 ?_
  refine ts_iload_n (i := 2) rfl rfl dX10_bestCell_2 ?_
  refine ts_iconst rfl dX10_bestCell_3 ?_
  refine ts_iconst rfl dX10_bestCell_4 ?_
  refine tq_callV (y2 := mX10_steps) [tv_I a1, tv_I a2, tv_I 0, tv_I ((-1))] [] 23 (st' := fun r5 => [tv_I r5]) tw_X10_steps tx_X10_steps tw_c10 ga_c_23 tl_X10_58 rfl rfl rfl rfl (fun _ => rfl) dX10_bestCell_5 (S_X10_steps l hE _ a1 a2 0 ((-1)) D) (fun r5 D6 => ?_)
  refine tq_istore [tv_R 23, tv_I a1, tv_I a2, tv_I a3, tv_I r5, tv_U, tv_U, tv_U, tv_U] (Nat.le_of_ble_eq_true rfl) rfl rfl dX10_bestCell_8 ?_
  refine ts_iconst rfl dX10_bestCell_10 ?_
  refine tq_istore [tv_R 23, tv_I a1, tv_I a2, tv_I a3, tv_I r5, tv_I ((-1)), tv_U, tv_U, tv_U] (Nat.le_of_ble_eq_true rfl) rfl rfl dX10_bestCell_11 ?_
  refine ts_iconst rfl dX10_bestCell_13 ?_
  refine tq_istore [tv_R 23, tv_I a1, tv_I a2, tv_I a3, tv_I r5, tv_I ((-1)), tv_I ((-1)), tv_U, tv_U] (Nat.le_of_ble_eq_true rfl) rfl rfl dX10_bestCell_14 ?_
  refine ts_iconst rfl dX10_bestCell_16 ?_
  refine tq_istore [tv_R 23, tv_I a1, tv_I a2, tv_I a3, tv_I r5, tv_I ((-1)), tv_I ((-1)), tv_I 0, tv_U] (Nat.le_of_ble_eq_true rfl) rfl rfl dX10_bestCell_17 ?_
  exact S_X10_bestCell_19 hE d tf_N a1 a2 a3 r5 ((-1)) ((-1)) 0 D6
def F_X10_cheapestOpen_4 : Nat → Int → Int → td_D → Option (Int × td_D)
  | 0, _, _, _ => none
  | n + 1, v1, v2, D =>
    if 100 ≤ v2 then
      some (v1, D)
    else
      if 0 ≤ v2 ∧ v2 < ((100 : Nat) : Int) then
        if D 26 (Int.toNat v2) = 0 then
          if v1 = (-1) then
            F_X10_cheapestOpen_4 n v2 (tv_w (v2 + 1)) D
          else
            if 0 ≤ v1 ∧ v1 < ((100 : Nat) : Int) then
              if D 25 (Int.toNat v1) ≤ D 25 (Int.toNat v2) then
                F_X10_cheapestOpen_4 n v1 (tv_w (v2 + 1)) D
              else
                F_X10_cheapestOpen_4 n v2 (tv_w (v2 + 1)) D
            else none
        else
          F_X10_cheapestOpen_4 n v1 (tv_w (v2 + 1)) D
      else none
set_option maxHeartbeats 4000000 in
set_option maxRecDepth 20000 in
theorem S_X10_cheapestOpen_4 {l : Launch} {E : tv_E} (hE : tv_hE E) (d : Nat) : ∀ (n : Nat) (v1 : Int) (v2 : Int) (D : td_D), td_sim l E (d + 0) mX10_cheapestOpen g_c 4 [tv_R 23, tv_I v1, tv_I v2] [] D (F_X10_cheapestOpen_4 n v1 v2 D) := by
  intro n
  induction n with
  | zero => intros; exact tv_none
  | succ n ih =>
    intro v1 v2 D
    show td_sim _ _ _ _ _ _ _ _ _ (F_X10_cheapestOpen_4 (n + 1) v1 v2 D)
    unfold F_X10_cheapestOpen_4
    refine ts_iload_n (i := 2) rfl rfl dX10_cheapestOpen_4 ?_
    refine ts_bipush rfl dX10_cheapestOpen_5 ?_
    refine td_icmp_ge (tgt := 47) rfl dX10_cheapestOpen_7 ?_ ?_
    · refine ts_iload_n (i := 1) rfl rfl dX10_cheapestOpen_47 ?_
      exact td_iret rfl dX10_cheapestOpen_48
    · refine ts_aload_n (i := 0) rfl rfl dX10_cheapestOpen_10 ?_
      refine td_getR (q := 26) tl_X10_18 rfl ga_c_23 rfl dX10_cheapestOpen_11 ?_
      refine ts_iload_n (i := 2) rfl rfl dX10_cheapestOpen_14 ?_
      refine td_guard (fun h1 => ?_)
      refine td_ialdK ga_c_26 (gn_c_26 _) h1 dX10_cheapestOpen_15 ?_
      refine td_if_ne (tgt := 41) rfl dX10_cheapestOpen_16 ?_ ?_
      · refine ts_iload_n (i := 1) rfl rfl dX10_cheapestOpen_19 ?_
        refine ts_iconst rfl dX10_cheapestOpen_20 ?_
        refine td_icmp_eq (tgt := 39) rfl dX10_cheapestOpen_21 ?_ ?_
        · refine ts_iload_n (i := 2) rfl rfl dX10_cheapestOpen_39 ?_
          refine tq_istore_n [tv_R 23, tv_I v2, tv_I v2] rfl (Nat.le_of_ble_eq_true rfl) rfl rfl dX10_cheapestOpen_40 ?_
          refine tq_iinc [tv_R 23, tv_I v2, tv_I (tv_w (v2 + 1))] rfl rfl rfl dX10_cheapestOpen_41 ?_
          refine ts_goto (tgt := 4) rfl dX10_cheapestOpen_44 ?_
          exact ih v2 (tv_w (v2 + 1)) D
        · refine ts_aload_n (i := 0) rfl rfl dX10_cheapestOpen_24 ?_
          refine td_getR (q := 25) tl_X10_15 rfl ga_c_23 rfl dX10_cheapestOpen_25 ?_
          refine ts_iload_n (i := 2) rfl rfl dX10_cheapestOpen_28 ?_
          refine td_ialdK ga_c_25 (gn_c_25 _) h1 dX10_cheapestOpen_29 ?_
          refine ts_aload_n (i := 0) rfl rfl dX10_cheapestOpen_30 ?_
          refine td_getR (q := 25) tl_X10_15 rfl ga_c_23 rfl dX10_cheapestOpen_31 ?_
          refine ts_iload_n (i := 1) rfl rfl dX10_cheapestOpen_34 ?_
          refine td_guard (fun h2 => ?_)
          refine td_ialdK ga_c_25 (gn_c_25 _) h2 dX10_cheapestOpen_35 ?_
          refine td_icmp_ge (tgt := 41) rfl dX10_cheapestOpen_36 ?_ ?_
          · refine tq_iinc [tv_R 23, tv_I v1, tv_I (tv_w (v2 + 1))] rfl rfl rfl dX10_cheapestOpen_41 ?_
            refine ts_goto (tgt := 4) rfl dX10_cheapestOpen_44 ?_
            exact ih v1 (tv_w (v2 + 1)) D
          · refine ts_iload_n (i := 2) rfl rfl dX10_cheapestOpen_39 ?_
            refine tq_istore_n [tv_R 23, tv_I v2, tv_I v2] rfl (Nat.le_of_ble_eq_true rfl) rfl rfl dX10_cheapestOpen_40 ?_
            refine tq_iinc [tv_R 23, tv_I v2, tv_I (tv_w (v2 + 1))] rfl rfl rfl dX10_cheapestOpen_41 ?_
            refine ts_goto (tgt := 4) rfl dX10_cheapestOpen_44 ?_
            exact ih v2 (tv_w (v2 + 1)) D
      · refine tq_iinc [tv_R 23, tv_I v1, tv_I (tv_w (v2 + 1))] rfl rfl rfl dX10_cheapestOpen_41 ?_
        refine ts_goto (tgt := 4) rfl dX10_cheapestOpen_44 ?_
        exact ih v1 (tv_w (v2 + 1)) D
def F_X10_cheapestOpen (D : td_D) : Option (Int × td_D) :=
  F_X10_cheapestOpen_4 tf_N ((-1)) 0 D
set_option maxHeartbeats 4000000 in
set_option maxRecDepth 20000 in
theorem S_X10_cheapestOpen (l : Launch) {E : tv_E} (hE : tv_hE E) (d : Nat) (D : td_D) : td_msim l E (d + 0) mX10_cheapestOpen g_c [tv_R 23] D (F_X10_cheapestOpen D) := by
  refine td_meetL (ls := [tv_R 23, tv_U, tv_U]) rfl (Nat.le_of_ble_eq_true rfl) rfl ?_
  unfold F_X10_cheapestOpen
  refine ts_iconst rfl dX10_cheapestOpen_0 ?_
  refine tq_istore_n [tv_R 23, tv_I ((-1)), tv_U] rfl (Nat.le_of_ble_eq_true rfl) rfl rfl dX10_cheapestOpen_1 ?_
  refine ts_iconst rfl dX10_cheapestOpen_2 ?_
  refine tq_istore_n [tv_R 23, tv_I ((-1)), tv_I 0] rfl (Nat.le_of_ble_eq_true rfl) rfl rfl dX10_cheapestOpen_3 ?_
  exact S_X10_cheapestOpen_4 hE d tf_N ((-1)) 0 D
def F_X10_cheapen_2 : Nat → Int → Int → td_D → Option (Int × td_D)
  | 0, _, _, _ => none
  | n + 1, v1, v2, D =>
    if 4 ≤ v2 then
      some (0, D)
    else
      td_b (F_X10_beside v1 v2 D) fun r1 D2 =>
      if r1 = (-1) then
        F_X10_cheapen_2 n v1 (tv_w (v2 + 1)) D2
      else
        if 0 ≤ r1 ∧ r1 < ((100 : Nat) : Int) then
          if 0 ≤ v1 ∧ v1 < ((100 : Nat) : Int) then
            td_l (td_upd D2 25 (Int.toNat r1) (tv_min (D2 25 (Int.toNat r1)) (tv_w ((tv_w ((D2 25 (Int.toNat v1)) + (tv_w ((D2 24 (Int.toNat r1)) * 1000)))) + 1)))) fun D5 =>
            F_X10_cheapen_2 n v1 (tv_w (v2 + 1)) D5
          else none
        else none
set_option maxHeartbeats 4000000 in
set_option maxRecDepth 20000 in
theorem S_X10_cheapen_2 {l : Launch} {E : tv_E} (hE : tv_hE E) (d : Nat) : ∀ (n : Nat) (v1 : Int) (v2 : Int) (D : td_D), td_sim l E (d + 1) mX10_cheapen g_c 2 [tv_R 23, tv_I v1, tv_I v2, tv_U] [] D (F_X10_cheapen_2 n v1 v2 D) := by
  intro n
  induction n with
  | zero => intros; exact tv_none
  | succ n ih =>
    intro v1 v2 D
    show td_sim _ _ _ _ _ _ _ _ _ (F_X10_cheapen_2 (n + 1) v1 v2 D)
    unfold F_X10_cheapen_2
    refine ts_iload_n (i := 2) rfl rfl dX10_cheapen_2 ?_
    refine ts_iconst rfl dX10_cheapen_3 ?_
    refine td_icmp_ge (tgt := 58) rfl dX10_cheapen_4 ?_ ?_
    · exact td_vret rfl dX10_cheapen_58
    · refine ts_iload_n (i := 1) rfl rfl dX10_cheapen_7 ?_
      refine ts_iload_n (i := 2) rfl rfl dX10_cheapen_8 ?_
      refine tq_callS (y2 := mX10_beside) [tv_I v1, tv_I v2] [] (st' := fun r1 => [tv_I r1]) tw_X10_beside tx_X10_beside tl_X10_55 rfl rfl rfl rfl (fun _ => rfl) dX10_cheapen_9 (S_X10_beside l hE _ v1 v2 D) (fun r1 D2 => ?_)
      refine tq_istore_n [tv_R 23, tv_I v1, tv_I v2, tv_I r1] rfl (Nat.le_of_ble_eq_true rfl) rfl rfl dX10_cheapen_12 ?_
      refine ts_iload_n (i := 3) rfl rfl dX10_cheapen_13 ?_
      refine ts_iconst rfl dX10_cheapen_14 ?_
      refine td_icmp_eq (tgt := 52) rfl dX10_cheapen_15 ?_ ?_
      · refine tq_iinc [tv_R 23, tv_I v1, tv_I (tv_w (v2 + 1)), tv_I r1] rfl rfl rfl dX10_cheapen_52 ?_
        refine ts_goto (tgt := 2) rfl dX10_cheapen_55 ?_
        refine tv_weak (ls' := [tv_R 23, tv_I v1, tv_I (tv_w (v2 + 1)), tv_U]) ⟨Or.inr rfl, Or.inr rfl, Or.inr rfl, Or.inl rfl, trivial⟩ ?_
        exact ih v1 (tv_w (v2 + 1)) D2
      · refine ts_aload_n (i := 0) rfl rfl dX10_cheapen_18 ?_
        refine td_getR (q := 25) tl_X10_15 rfl ga_c_23 rfl dX10_cheapen_19 ?_
        refine ts_iload_n (i := 3) rfl rfl dX10_cheapen_22 ?_
        refine ts_aload_n (i := 0) rfl rfl dX10_cheapen_23 ?_
        refine td_getR (q := 25) tl_X10_15 rfl ga_c_23 rfl dX10_cheapen_24 ?_
        refine ts_iload_n (i := 3) rfl rfl dX10_cheapen_27 ?_
        refine td_guard (fun h3 => ?_)
        refine td_ialdK ga_c_25 (gn_c_25 _) h3 dX10_cheapen_28 ?_
        refine ts_aload_n (i := 0) rfl rfl dX10_cheapen_29 ?_
        refine td_getR (q := 25) tl_X10_15 rfl ga_c_23 rfl dX10_cheapen_30 ?_
        refine ts_iload_n (i := 1) rfl rfl dX10_cheapen_33 ?_
        refine td_guard (fun h4 => ?_)
        refine td_ialdK ga_c_25 (gn_c_25 _) h4 dX10_cheapen_34 ?_
        refine ts_aload_n (i := 0) rfl rfl dX10_cheapen_35 ?_
        refine td_getR (q := 24) tl_X10_9 rfl ga_c_23 rfl dX10_cheapen_36 ?_
        refine ts_iload_n (i := 3) rfl rfl dX10_cheapen_39 ?_
        refine td_ialdK ga_c_24 (gn_c_24 _) h3 dX10_cheapen_40 ?_
        refine ts_sipush rfl dX10_cheapen_41 ?_
        refine ts_imul dX10_cheapen_44 ?_
        refine ts_iadd dX10_cheapen_45 ?_
        refine ts_iconst rfl dX10_cheapen_46 ?_
        refine ts_iadd dX10_cheapen_47 ?_
        refine ts_mmin rfl rfl tl_X10_73 dX10_cheapen_48 ?_
        refine td_iastK ga_c_25 (gn_c_25 _) h3 dX10_cheapen_51 ?_
        refine td_let (fun D5 => ?_)
        refine tq_iinc [tv_R 23, tv_I v1, tv_I (tv_w (v2 + 1)), tv_I r1] rfl rfl rfl dX10_cheapen_52 ?_
        refine ts_goto (tgt := 2) rfl dX10_cheapen_55 ?_
        refine tv_weak (ls' := [tv_R 23, tv_I v1, tv_I (tv_w (v2 + 1)), tv_U]) ⟨Or.inr rfl, Or.inr rfl, Or.inr rfl, Or.inl rfl, trivial⟩ ?_
        exact ih v1 (tv_w (v2 + 1)) D5
def F_X10_cheapen (a1 : Int) (D : td_D) : Option (Int × td_D) :=
  F_X10_cheapen_2 tf_N a1 0 D
set_option maxHeartbeats 4000000 in
set_option maxRecDepth 20000 in
theorem S_X10_cheapen (l : Launch) {E : tv_E} (hE : tv_hE E) (d : Nat) (a1 : Int) (D : td_D) : td_msim l E (d + 1) mX10_cheapen g_c [tv_R 23, tv_I a1] D (F_X10_cheapen a1 D) := by
  refine td_meetL (ls := [tv_R 23, tv_I a1, tv_U, tv_U]) rfl (Nat.le_of_ble_eq_true rfl) rfl ?_
  unfold F_X10_cheapen
  refine ts_iconst rfl dX10_cheapen_0 ?_
  refine tq_istore_n [tv_R 23, tv_I a1, tv_I 0, tv_U] rfl (Nat.le_of_ble_eq_true rfl) rfl rfl dX10_cheapen_1 ?_
  exact S_X10_cheapen_2 hE d tf_N a1 0 D
