def F_X3_farOf (a1 : Int) (D : td_D) : Option (Int × td_D) :=
  if a1 ≤ 0 then
    some ((-1), D)
  else
    if 0 < D 2 10 then
      if D 2 10 = 0 then none else
        some (tv_div a1 (D 2 10), D)
    else
      some ((-1), D)
set_option maxHeartbeats 4000000 in
set_option maxRecDepth 20000 in
theorem S_X3_farOf (l : Launch) {E : tv_E} (hE : tv_hE E) (d : Nat) (a1 : Int) (D : td_D) : td_msim l E (d + 0) mX3_farOf g_c [tv_R 2, tv_I a1] D (F_X3_farOf a1 D) := by
  refine td_meetL (ls := [tv_R 2, tv_I a1]) rfl (Nat.le_of_ble_eq_true rfl) rfl ?_
  unfold F_X3_farOf
  refine ts_iload_n (i := 1) rfl rfl dX3_farOf_0 ?_
  refine td_if_le (tgt := 11) rfl dX3_farOf_1 ?_ ?_
  · refine ts_iconst rfl dX3_farOf_11 ?_
    refine ts_goto (tgt := 21) rfl dX3_farOf_12 ?_
    exact td_iret rfl dX3_farOf_21
  · refine ts_aload_n (i := 0) rfl rfl dX3_farOf_4 ?_
    refine td_getI tl_X3_47 rfl ga_c_2 rfl dX3_farOf_5 ?_
    refine td_if_gt (tgt := 15) rfl dX3_farOf_8 ?_ ?_
    · refine ts_iload_n (i := 1) rfl rfl dX3_farOf_15 ?_
      refine ts_aload_n (i := 0) rfl rfl dX3_farOf_16 ?_
      refine td_getI tl_X3_47 rfl ga_c_2 rfl dX3_farOf_17 ?_
      refine td_ite (fun _ => tv_none) (fun h1 => ?_)
      refine td_idivK h1 dX3_farOf_20 ?_
      exact td_iret rfl dX3_farOf_21
    · refine ts_iconst rfl dX3_farOf_11 ?_
      refine ts_goto (tgt := 21) rfl dX3_farOf_12 ?_
      exact td_iret rfl dX3_farOf_21
def F_X11_apart (a0 : Int) (a1 : Int) (D : td_D) : Option (Int × td_D) :=
  some (tv_w ((tv_abs (tv_w ((tv_rem a0 10) - (tv_rem a1 10)))) + (tv_abs (tv_w ((tv_div a0 10) - (tv_div a1 10))))), D)
set_option maxHeartbeats 4000000 in
set_option maxRecDepth 20000 in
theorem S_X11_apart (l : Launch) {E : tv_E} (hE : tv_hE E) (d : Nat) (a0 : Int) (a1 : Int) (D : td_D) : td_msim l E (d + 1) mX11_apart g_c [tv_I a0, tv_I a1] D (F_X11_apart a0 a1 D) := by
  refine td_meetL (ls := [tv_I a0, tv_I a1]) rfl (Nat.le_of_ble_eq_true rfl) rfl ?_
  unfold F_X11_apart
  refine ts_iload_n (i := 0) rfl rfl dX11_apart_0 ?_
  refine ts_bipush rfl dX11_apart_1 ?_
  refine td_iremK (by decide) dX11_apart_3 ?_
  refine ts_iload_n (i := 1) rfl rfl dX11_apart_4 ?_
  refine ts_bipush rfl dX11_apart_5 ?_
  refine td_iremK (by decide) dX11_apart_7 ?_
  refine ts_isub dX11_apart_8 ?_
  refine ts_mabs rfl rfl tl_X11_426 dX11_apart_9 ?_
  refine ts_iload_n (i := 0) rfl rfl dX11_apart_12 ?_
  refine ts_bipush rfl dX11_apart_13 ?_
  refine td_idivK (by decide) dX11_apart_15 ?_
  refine ts_iload_n (i := 1) rfl rfl dX11_apart_16 ?_
  refine ts_bipush rfl dX11_apart_17 ?_
  refine td_idivK (by decide) dX11_apart_19 ?_
  refine ts_isub dX11_apart_20 ?_
  refine ts_mabs rfl rfl tl_X11_426 dX11_apart_21 ?_
  refine ts_iadd dX11_apart_24 ?_
  exact td_iret rfl dX11_apart_25
def F_X7_share (p0 : Nat) (a1 : Int) (a2 : Int) (D : td_D) : Option (Int × td_D) :=
  if 0 ≤ tv_w ((tv_w (a1 * 6)) + a2) ∧ tv_w ((tv_w (a1 * 6)) + a2) < ((30 : Nat) : Int) then
    some (D (td_r g_c p0 0) (tv_w ((tv_w (a1 * 6)) + a2)).toNat, D)
  else none
set_option maxHeartbeats 4000000 in
set_option maxRecDepth 20000 in
theorem S_X7_share (l : Launch) {E : tv_E} (hE : tv_hE E) (d : Nat) (p0 : Nat) (a1 : Int) (a2 : Int) (hp0 : tv_isStock p0) (D : td_D) : td_msim l E (d + 0) mX7_share g_c [tv_R p0, tv_I a1, tv_I a2] D (F_X7_share p0 a1 a2 D) := by
  refine td_meetL (ls := [tv_R p0, tv_I a1, tv_I a2]) rfl (Nat.le_of_ble_eq_true rfl) rfl ?_
  unfold F_X7_share
  refine ts_aload_n (i := 0) rfl rfl dX7_share_0 ?_
  refine td_getR (q := td_r g_c p0 0) tl_X7_9 rfl hp0.1 hp0.2.1 dX7_share_1 ?_
  refine ts_iload_n (i := 1) rfl rfl dX7_share_4 ?_
  refine ts_bipush rfl dX7_share_5 ?_
  refine ts_imul dX7_share_7 ?_
  refine ts_iload_n (i := 2) rfl rfl dX7_share_8 ?_
  refine ts_iadd dX7_share_9 ?_
  refine td_guard (fun h1 => ?_)
  refine td_ialdK hp0.2.2.1 (hp0.2.2.2 _) h1 dX7_share_10 ?_
  exact td_iret rfl dX7_share_11
def F_X7_allIn_4 : Nat → Nat → Int → Int → Int → td_D → Option (Int × td_D)
  | 0, _, _, _, _, _ => none
  | n + 1, v0, v1, v2, v3, D =>
    if 6 ≤ v3 then
      some (v2, D)
    else
      td_b (F_X7_share v0 v1 v3 D) fun r1 D2 =>
      F_X7_allIn_4 n v0 v1 (tv_w (v2 + r1)) (tv_w (v3 + 1)) D2
set_option maxHeartbeats 4000000 in
set_option maxRecDepth 20000 in
theorem S_X7_allIn_4 {l : Launch} {E : tv_E} (hE : tv_hE E) (d : Nat) : ∀ (n : Nat) (v0 : Nat) (v1 : Int) (v2 : Int) (v3 : Int) (D : td_D), tv_isStock v0 → td_sim l E (d + 1) mX7_allIn g_c 4 [tv_R v0, tv_I v1, tv_I v2, tv_I v3] [] D (F_X7_allIn_4 n v0 v1 v2 v3 D) := by
  intro n
  induction n with
  | zero => intros; exact tv_none
  | succ n ih =>
    intro v0 v1 v2 v3 D hv0
    show td_sim _ _ _ _ _ _ _ _ _ (F_X7_allIn_4 (n + 1) v0 v1 v2 v3 D)
    unfold F_X7_allIn_4
    refine ts_iload_n (i := 3) rfl rfl dX7_allIn_4 ?_
    refine ts_bipush rfl dX7_allIn_5 ?_
    refine td_icmp_ge (tgt := 25) rfl dX7_allIn_7 ?_ ?_
    · refine ts_iload_n (i := 2) rfl rfl dX7_allIn_25 ?_
      exact td_iret rfl dX7_allIn_26
    · refine ts_iload_n (i := 2) rfl rfl dX7_allIn_10 ?_
      refine ts_aload_n (i := 0) rfl rfl dX7_allIn_11 ?_
      refine ts_iload_n (i := 1) rfl rfl dX7_allIn_12 ?_
      refine ts_iload_n (i := 3) rfl rfl dX7_allIn_13 ?_
      refine tq_callV (y2 := mX7_share) [tv_I v1, tv_I v3] [tv_I v2] v0 (st' := fun r1 => [tv_I r1, tv_I v2]) tw_X7_share tx_X7_share tw_c7 hv0.1 tl_X7_15 rfl rfl rfl rfl (fun _ => rfl) dX7_allIn_14 (S_X7_share l hE _ v0 v1 v3 hv0 D) (fun r1 D2 => ?_)
      refine ts_iadd dX7_allIn_17 ?_
      refine tq_istore_n [tv_R v0, tv_I v1, tv_I (tv_w (v2 + r1)), tv_I v3] rfl (Nat.le_of_ble_eq_true rfl) rfl rfl dX7_allIn_18 ?_
      refine tq_iinc [tv_R v0, tv_I v1, tv_I (tv_w (v2 + r1)), tv_I (tv_w (v3 + 1))] rfl rfl rfl dX7_allIn_19 ?_
      refine ts_goto (tgt := 4) rfl dX7_allIn_22 ?_
      exact ih v0 v1 (tv_w (v2 + r1)) (tv_w (v3 + 1)) D2 hv0
def F_X7_allIn (p0 : Nat) (a1 : Int) (D : td_D) : Option (Int × td_D) :=
  F_X7_allIn_4 tf_N p0 a1 0 0 D
set_option maxHeartbeats 4000000 in
set_option maxRecDepth 20000 in
theorem S_X7_allIn (l : Launch) {E : tv_E} (hE : tv_hE E) (d : Nat) (p0 : Nat) (a1 : Int) (hp0 : tv_isStock p0) (D : td_D) : td_msim l E (d + 1) mX7_allIn g_c [tv_R p0, tv_I a1] D (F_X7_allIn p0 a1 D) := by
  refine td_meetL (ls := [tv_R p0, tv_I a1, tv_U, tv_U]) rfl (Nat.le_of_ble_eq_true rfl) rfl ?_
  unfold F_X7_allIn
  refine ts_iconst rfl dX7_allIn_0 ?_
  refine tq_istore_n [tv_R p0, tv_I a1, tv_I 0, tv_U] rfl (Nat.le_of_ble_eq_true rfl) rfl rfl dX7_allIn_1 ?_
  refine ts_iconst rfl dX7_allIn_2 ?_
  refine tq_istore_n [tv_R p0, tv_I a1, tv_I 0, tv_I 0] rfl (Nat.le_of_ble_eq_true rfl) rfl rfl dX7_allIn_3 ?_
  exact S_X7_allIn_4 hE d tf_N p0 a1 0 0 D hp0
def F_X3_stingersAt_5 : Nat → Nat → Int → Int → Int → td_D → Option (Int × td_D)
  | 0, _, _, _, _, _ => none
  | n + 1, v1, v2, v3, v4, D =>
    if D 2 1 ≤ v4 then
      some (v3, D)
    else
      if 0 ≤ v4 ∧ v4 < ((5 : Nat) : Int) then
        td_b (F_X11_apart v2 (D 4 (v4).toNat) D) fun r2 D3 =>
        td_b (F_X7_allIn v1 v4 D3) fun r4 D5 =>
        td_b (F_X3_farOf r4 D5) fun r6 D7 =>
        if r6 < r2 then
          F_X3_stingersAt_5 n v1 v2 v3 (tv_w (v4 + 1)) D7
        else
          F_X3_stingersAt_5 n v1 v2 (tv_or v3 (tv_shl 1 v4)) (tv_w (v4 + 1)) D7
      else none
set_option maxHeartbeats 4000000 in
set_option maxRecDepth 20000 in
theorem S_X3_stingersAt_5 {l : Launch} {E : tv_E} (hE : tv_hE E) (d : Nat) : ∀ (n : Nat) (v1 : Nat) (v2 : Int) (v3 : Int) (v4 : Int) (D : td_D), tv_isStock v1 → td_sim l E (d + 2) mX3_stingersAt g_c 5 [tv_R 2, tv_R v1, tv_I v2, tv_I v3, tv_I v4] [] D (F_X3_stingersAt_5 n v1 v2 v3 v4 D) := by
  intro n
  induction n with
  | zero => intros; exact tv_none
  | succ n ih =>
    intro v1 v2 v3 v4 D hv1
    show td_sim _ _ _ _ _ _ _ _ _ (F_X3_stingersAt_5 (n + 1) v1 v2 v3 v4 D)
    unfold F_X3_stingersAt_5
    refine ts_iload rfl dX3_stingersAt_5 ?_
    refine ts_aload_n (i := 0) rfl rfl dX3_stingersAt_7 ?_
    refine td_getI tl_X3_15 rfl ga_c_2 rfl dX3_stingersAt_8 ?_
    refine td_icmp_ge (tgt := 51) rfl dX3_stingersAt_11 ?_ ?_
    · refine ts_iload_n (i := 3) rfl rfl dX3_stingersAt_51 ?_
      exact td_iret rfl dX3_stingersAt_52
    · refine ts_iload_n (i := 2) rfl rfl dX3_stingersAt_14 ?_
      refine ts_aload_n (i := 0) rfl rfl dX3_stingersAt_15 ?_
      refine td_getR (q := 4) tl_X3_25 rfl ga_c_2 rfl dX3_stingersAt_16 ?_
      refine ts_iload rfl dX3_stingersAt_19 ?_
      refine td_guard (fun h1 => ?_)
      refine td_ialdK ga_c_4 (gn_c_4 _) h1 dX3_stingersAt_21 ?_
      refine tq_callSN (y2 := mX11_apart) [tv_I v2, tv_I (D 4 (v4).toNat)] [] (st' := fun r2 => [tv_I r2]) tw_X11_apart tx_X11_apart tl_X3_65 rfl rfl rfl rfl (fun _ => rfl) dX3_stingersAt_22 (S_X11_apart l hE _ v2 (D 4 (v4).toNat) D) (fun r2 D3 => ?_)
      refine ts_aload_n (i := 0) rfl rfl dX3_stingersAt_25 ?_
      refine ts_aload_n (i := 1) rfl rfl dX3_stingersAt_26 ?_
      refine ts_iload rfl dX3_stingersAt_27 ?_
      refine tq_callV (y2 := mX7_allIn) [tv_I v4] [tv_R 2, tv_I r2] v1 (st' := fun r4 => [tv_I r4, tv_R 2, tv_I r2]) tw_X7_allIn tx_X7_allIn tw_c7 hv1.1 tl_X3_69 rfl rfl rfl rfl (fun _ => rfl) dX3_stingersAt_29 (S_X7_allIn l hE _ v1 v4 hv1 D3) (fun r4 D5 => ?_)
      refine tq_callV (y2 := mX3_farOf) [tv_I r4] [tv_I r2] 2 (st' := fun r6 => [tv_I r6, tv_I r2]) tw_X3_farOf tx_X3_farOf tw_c3 ga_c_2 tl_X3_73 rfl rfl rfl rfl (fun _ => rfl) dX3_stingersAt_32 (S_X3_farOf l hE _ r4 D5) (fun r6 D7 => ?_)
      refine td_icmp_gt (tgt := 45) rfl dX3_stingersAt_35 ?_ ?_
      · refine tq_iinc [tv_R 2, tv_R v1, tv_I v2, tv_I v3, tv_I (tv_w (v4 + 1))] rfl rfl rfl dX3_stingersAt_45 ?_
        refine ts_goto (tgt := 5) rfl dX3_stingersAt_48 ?_
        exact ih v1 v2 v3 (tv_w (v4 + 1)) D7 hv1
      · refine ts_iload_n (i := 3) rfl rfl dX3_stingersAt_38 ?_
        refine ts_iconst rfl dX3_stingersAt_39 ?_
        refine ts_iload rfl dX3_stingersAt_40 ?_
        refine ts_ishl dX3_stingersAt_42 ?_
        refine ts_ior dX3_stingersAt_43 ?_
        refine tq_istore_n [tv_R 2, tv_R v1, tv_I v2, tv_I (tv_or v3 (tv_shl 1 v4)), tv_I v4] rfl (Nat.le_of_ble_eq_true rfl) rfl rfl dX3_stingersAt_44 ?_
        refine tq_iinc [tv_R 2, tv_R v1, tv_I v2, tv_I (tv_or v3 (tv_shl 1 v4)), tv_I (tv_w (v4 + 1))] rfl rfl rfl dX3_stingersAt_45 ?_
        refine ts_goto (tgt := 5) rfl dX3_stingersAt_48 ?_
        exact ih v1 v2 (tv_or v3 (tv_shl 1 v4)) (tv_w (v4 + 1)) D7 hv1
def F_X3_stingersAt (p1 : Nat) (a2 : Int) (D : td_D) : Option (Int × td_D) :=
  F_X3_stingersAt_5 tf_N p1 a2 0 0 D
set_option maxHeartbeats 4000000 in
set_option maxRecDepth 20000 in
theorem S_X3_stingersAt (l : Launch) {E : tv_E} (hE : tv_hE E) (d : Nat) (p1 : Nat) (a2 : Int) (hp1 : tv_isStock p1) (D : td_D) : td_msim l E (d + 2) mX3_stingersAt g_c [tv_R 2, tv_R p1, tv_I a2] D (F_X3_stingersAt p1 a2 D) := by
  refine td_meetL (ls := [tv_R 2, tv_R p1, tv_I a2, tv_U, tv_U]) rfl (Nat.le_of_ble_eq_true rfl) rfl ?_
  unfold F_X3_stingersAt
  refine ts_iconst rfl dX3_stingersAt_0 ?_
  refine tq_istore_n [tv_R 2, tv_R p1, tv_I a2, tv_I 0, tv_U] rfl (Nat.le_of_ble_eq_true rfl) rfl rfl dX3_stingersAt_1 ?_
  refine ts_iconst rfl dX3_stingersAt_2 ?_
  refine tq_istore [tv_R 2, tv_R p1, tv_I a2, tv_I 0, tv_I 0] (Nat.le_of_ble_eq_true rfl) rfl rfl dX3_stingersAt_3 ?_
  exact S_X3_stingersAt_5 hE d tf_N p1 a2 0 0 D hp1
def F_X11_isTemper (a0 : Int) (D : td_D) : Option (Int × td_D) :=
  if a0 < 0 then
    some (0, D)
  else
    if 99 < a0 then
      some (0, D)
    else
      some (1, D)
set_option maxHeartbeats 4000000 in
set_option maxRecDepth 20000 in
theorem S_X11_isTemper (l : Launch) {E : tv_E} (hE : tv_hE E) (d : Nat) (a0 : Int) (D : td_D) : td_msim l E (d + 0) mX11_isTemper g_c [tv_I a0] D (F_X11_isTemper a0 D) := by
  refine td_meetL (ls := [tv_I a0]) rfl (Nat.le_of_ble_eq_true rfl) rfl ?_
  unfold F_X11_isTemper
  refine ts_iload_n (i := 0) rfl rfl dX11_isTemper_0 ?_
  refine td_if_lt (tgt := 14) rfl dX11_isTemper_1 ?_ ?_
  · refine ts_iconst rfl dX11_isTemper_14 ?_
    exact td_zretK (Or.inl rfl) rfl dX11_isTemper_15
  · refine ts_iload_n (i := 0) rfl rfl dX11_isTemper_4 ?_
    refine ts_bipush rfl dX11_isTemper_5 ?_
    refine td_icmp_gt (tgt := 14) rfl dX11_isTemper_7 ?_ ?_
    · refine ts_iconst rfl dX11_isTemper_14 ?_
      exact td_zretK (Or.inl rfl) rfl dX11_isTemper_15
    · refine ts_iconst rfl dX11_isTemper_10 ?_
      refine ts_goto (tgt := 15) rfl dX11_isTemper_11 ?_
      exact td_zretK (Or.inr rfl) rfl dX11_isTemper_15
def F_X3_addPerson (a1 : Int) (D : td_D) : Option (Int × td_D) :=
  if 0 ≤ D 2 0 ∧ D 2 0 < ((6 : Nat) : Int) then
    td_l (td_upd D 3 (D 2 0).toNat a1) fun D2 =>
    td_l (td_upd D2 2 0 (tv_w ((D2 2 0) + 1))) fun D3 =>
    some (tv_w ((D3 2 0) - 1), D3)
  else none
set_option maxHeartbeats 4000000 in
set_option maxRecDepth 20000 in
theorem S_X3_addPerson (l : Launch) {E : tv_E} (hE : tv_hE E) (d : Nat) (a1 : Int) (D : td_D) : td_msim l E (d + 0) mX3_addPerson g_c [tv_R 2, tv_I a1] D (F_X3_addPerson a1 D) := by
  refine td_meetL (ls := [tv_R 2, tv_I a1]) rfl (Nat.le_of_ble_eq_true rfl) rfl ?_
  unfold F_X3_addPerson
  refine ts_aload_n (i := 0) rfl rfl dX3_addPerson_0 ?_
  refine td_getR (q := 3) tl_X3_21 rfl ga_c_2 rfl dX3_addPerson_1 ?_
  refine ts_aload_n (i := 0) rfl rfl dX3_addPerson_4 ?_
  refine td_getI tl_X3_9 rfl ga_c_2 rfl dX3_addPerson_5 ?_
  refine ts_iload_n (i := 1) rfl rfl dX3_addPerson_8 ?_
  refine td_guard (fun h1 => ?_)
  refine td_iastK ga_c_3 (gn_c_3 _) h1 dX3_addPerson_9 ?_
  refine td_let (fun D2 => ?_)
  refine ts_aload_n (i := 0) rfl rfl dX3_addPerson_10 ?_
  refine ts_dupR dX3_addPerson_11 ?_
  refine td_getI tl_X3_9 rfl ga_c_2 rfl dX3_addPerson_12 ?_
  refine ts_iconst rfl dX3_addPerson_15 ?_
  refine ts_iadd dX3_addPerson_16 ?_
  refine td_putI tf_X3_9 (by intro h; cases h) rfl ga_c_2 rfl dX3_addPerson_17 ?_
  refine td_let (fun D3 => ?_)
  refine ts_aload_n (i := 0) rfl rfl dX3_addPerson_20 ?_
  refine td_getI tl_X3_9 rfl ga_c_2 rfl dX3_addPerson_21 ?_
  refine ts_iconst rfl dX3_addPerson_24 ?_
  refine ts_isub dX3_addPerson_25 ?_
  exact td_iret rfl dX3_addPerson_26
def F_X11_person (a1 : Int) (D : td_D) : Option (Int × td_D) :=
  td_b (F_X11_isTemper a1 D) fun r1 D2 =>
  if r1 = 0 then
    some ((-1), D2)
  else
    if D2 2 0 < 6 then
      td_b (F_X3_addPerson a1 D2) fun r3 D4 =>
      some (r3, D4)
    else
      some ((-3), D2)
set_option maxHeartbeats 4000000 in
set_option maxRecDepth 20000 in
theorem S_X11_person (l : Launch) {E : tv_E} (hE : tv_hE E) (d : Nat) (a1 : Int) (D : td_D) : td_msim l E (d + 1) mX11_person g_c [tv_R 1, tv_I a1] D (F_X11_person a1 D) := by
  refine td_meetL (ls := [tv_R 1, tv_I a1]) rfl (Nat.le_of_ble_eq_true rfl) rfl ?_
  unfold F_X11_person
  refine ts_iload_n (i := 1) rfl rfl dX11_person_0 ?_
  refine tq_callS (y2 := mX11_isTemper) [tv_I a1] [] (st' := fun r1 => [tv_I r1]) tw_X11_isTemper tx_X11_isTemper tl_X11_96 rfl rfl rfl rfl (fun _ => rfl) dX11_person_1 (S_X11_isTemper l hE _ a1 D) (fun r1 D2 => ?_)
  refine td_if_ne (tgt := 9) rfl dX11_person_4 ?_ ?_
  · refine ts_iconst rfl dX11_person_7 ?_
    exact td_iret rfl dX11_person_8
  · refine ts_aload_n (i := 0) rfl rfl dX11_person_9 ?_
    refine td_getR (q := 2) tl_X11_12 rfl ga_c_1 rfl dX11_person_10 ?_
    refine td_getI tl_X11_100 rfl ga_c_2 rfl dX11_person_13 ?_
    refine ts_bipush rfl dX11_person_16 ?_
    refine td_icmp_lt (tgt := 26) rfl dX11_person_18 ?_ ?_
    · refine ts_aload_n (i := 0) rfl rfl dX11_person_26 ?_
      refine td_getR (q := 2) tl_X11_12 rfl ga_c_1 rfl dX11_person_27 ?_
      refine ts_iload_n (i := 1) rfl rfl dX11_person_30 ?_
      refine tq_callV (y2 := mX3_addPerson) [tv_I a1] [] 2 (st' := fun r3 => [tv_I r3]) tw_X3_addPerson tx_X3_addPerson tw_c3 ga_c_2 tl_X11_104 rfl rfl rfl rfl (fun _ => rfl) dX11_person_31 (S_X3_addPerson l hE _ a1 D2) (fun r3 D4 => ?_)
      exact td_iret rfl dX11_person_34
    · refine ts_bipush rfl dX11_person_21 ?_
      refine ts_goto (tgt := 34) rfl dX11_person_23 ?_
      exact td_iret rfl dX11_person_34
