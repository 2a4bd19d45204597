def F_X0_forgetOldest (D : td_D) : Option (Int × td_D) :=
  td_l (td_upd D 32 5 39) fun D1 =>
  if (0 : Int) ≤ 1 ∧ (0 : Int) ≤ 0 ∧ (0 : Int) ≤ D1 32 5 ∧ 1 + (D1 32 5) ≤ ((40 : Nat) : Int) ∧ 0 + (D1 32 5) ≤ ((40 : Nat) : Int) then
    td_l (td_cpy D1 33 (Int.toNat 1) 33 (Int.toNat 0) (Int.toNat (D1 32 5))) fun D3 =>
    if (0 : Int) ≤ 1 ∧ (0 : Int) ≤ 0 ∧ (0 : Int) ≤ D3 32 5 ∧ 1 + (D3 32 5) ≤ ((40 : Nat) : Int) ∧ 0 + (D3 32 5) ≤ ((40 : Nat) : Int) then
      td_l (td_cpy D3 34 (Int.toNat 1) 34 (Int.toNat 0) (Int.toNat (D3 32 5))) fun D5 =>
      if (0 : Int) ≤ 1 ∧ (0 : Int) ≤ 0 ∧ (0 : Int) ≤ D5 32 5 ∧ 1 + (D5 32 5) ≤ ((40 : Nat) : Int) ∧ 0 + (D5 32 5) ≤ ((40 : Nat) : Int) then
        td_l (td_cpy D5 35 (Int.toNat 1) 35 (Int.toNat 0) (Int.toNat (D5 32 5))) fun D7 =>
        if (0 : Int) ≤ 1 ∧ (0 : Int) ≤ 0 ∧ (0 : Int) ≤ D7 32 5 ∧ 1 + (D7 32 5) ≤ ((40 : Nat) : Int) ∧ 0 + (D7 32 5) ≤ ((40 : Nat) : Int) then
          td_l (td_cpy D7 36 (Int.toNat 1) 36 (Int.toNat 0) (Int.toNat (D7 32 5))) fun D9 =>
          some (0, D9)
        else none
      else none
    else none
  else none
set_option maxHeartbeats 4000000 in
set_option maxRecDepth 20000 in
theorem S_X0_forgetOldest (l : Launch) {E : tv_E} (hE : tv_hE E) (d : Nat) (D : td_D) : td_msim l E (d + 1) mX0_forgetOldest g_c [tv_R 32] D (F_X0_forgetOldest D) := by
  refine td_meetL (ls := [tv_R 32]) rfl (Nat.le_of_ble_eq_true rfl) rfl ?_
  unfold F_X0_forgetOldest
  refine ts_aload_n (i := 0) rfl rfl dX0_forgetOldest_0 ?_
  refine ts_bipush rfl dX0_forgetOldest_1 ?_
  refine td_putI tf_X0_28 (by intro h; cases h) rfl ga_c_32 rfl dX0_forgetOldest_3 ?_
  refine td_let (fun D1 => ?_)
  refine ts_aload_n (i := 0) rfl rfl dX0_forgetOldest_6 ?_
  refine td_getR (q := 33) tl_X0_9 rfl ga_c_32 rfl dX0_forgetOldest_7 ?_
  refine ts_iconst rfl dX0_forgetOldest_10 ?_
  refine ts_aload_n (i := 0) rfl rfl dX0_forgetOldest_11 ?_
  refine td_getR (q := 33) tl_X0_9 rfl ga_c_32 rfl dX0_forgetOldest_12 ?_
  refine ts_iconst rfl dX0_forgetOldest_15 ?_
  refine ts_aload_n (i := 0) rfl rfl dX0_forgetOldest_16 ?_
  refine td_getI tl_X0_28 rfl ga_c_32 rfl dX0_forgetOldest_17 ?_
  refine td_cpyi (y := mX0_forgetOldest) (st := []) (ls := [tv_R 32]) hE.1 rfl ga_c_33 ga_c_33 gn_c_33 gn_c_33 tl_X0_34 (tv_st8 rfl) dX0_forgetOldest_20 ?_
  refine td_let (fun D3 => ?_)
  refine ts_aload_n (i := 0) rfl rfl dX0_forgetOldest_23 ?_
  refine td_getR (q := 34) tl_X0_15 rfl ga_c_32 rfl dX0_forgetOldest_24 ?_
  refine ts_iconst rfl dX0_forgetOldest_27 ?_
  refine ts_aload_n (i := 0) rfl rfl dX0_forgetOldest_28 ?_
  refine td_getR (q := 34) tl_X0_15 rfl ga_c_32 rfl dX0_forgetOldest_29 ?_
  refine ts_iconst rfl dX0_forgetOldest_32 ?_
  refine ts_aload_n (i := 0) rfl rfl dX0_forgetOldest_33 ?_
  refine td_getI tl_X0_28 rfl ga_c_32 rfl dX0_forgetOldest_34 ?_
  refine td_cpyi (y := mX0_forgetOldest) (st := []) (ls := [tv_R 32]) hE.1 rfl ga_c_34 ga_c_34 gn_c_34 gn_c_34 tl_X0_34 (tv_st8 rfl) dX0_forgetOldest_37 ?_
  refine td_let (fun D5 => ?_)
  refine ts_aload_n (i := 0) rfl rfl dX0_forgetOldest_40 ?_
  refine td_getR (q := 35) tl_X0_18 rfl ga_c_32 rfl dX0_forgetOldest_41 ?_
  refine ts_iconst rfl dX0_forgetOldest_44 ?_
  refine ts_aload_n (i := 0) rfl rfl dX0_forgetOldest_45 ?_
  refine td_getR (q := 35) tl_X0_18 rfl ga_c_32 rfl dX0_forgetOldest_46 ?_
  refine ts_iconst rfl dX0_forgetOldest_49 ?_
  refine ts_aload_n (i := 0) rfl rfl dX0_forgetOldest_50 ?_
  refine td_getI tl_X0_28 rfl ga_c_32 rfl dX0_forgetOldest_51 ?_
  refine td_cpyi (y := mX0_forgetOldest) (st := []) (ls := [tv_R 32]) hE.1 rfl ga_c_35 ga_c_35 gn_c_35 gn_c_35 tl_X0_34 (tv_st8 rfl) dX0_forgetOldest_54 ?_
  refine td_let (fun D7 => ?_)
  refine ts_aload_n (i := 0) rfl rfl dX0_forgetOldest_57 ?_
  refine td_getR (q := 36) tl_X0_21 rfl ga_c_32 rfl dX0_forgetOldest_58 ?_
  refine ts_iconst rfl dX0_forgetOldest_61 ?_
  refine ts_aload_n (i := 0) rfl rfl dX0_forgetOldest_62 ?_
  refine td_getR (q := 36) tl_X0_21 rfl ga_c_32 rfl dX0_forgetOldest_63 ?_
  refine ts_iconst rfl dX0_forgetOldest_66 ?_
  refine ts_aload_n (i := 0) rfl rfl dX0_forgetOldest_67 ?_
  refine td_getI tl_X0_28 rfl ga_c_32 rfl dX0_forgetOldest_68 ?_
  refine td_cpyi (y := mX0_forgetOldest) (st := []) (ls := [tv_R 32]) hE.1 rfl ga_c_36 ga_c_36 gn_c_36 gn_c_36 tl_X0_34 (tv_st8 rfl) dX0_forgetOldest_71 ?_
  refine td_let (fun D9 => ?_)
  exact td_vret rfl dX0_forgetOldest_74
def F_X0_note_13 (v1 : Int) (v2 : Int) (v3 : Int) (v4 : Int) (D : td_D) : Option (Int × td_D) :=
  if 0 ≤ D 32 5 ∧ D 32 5 < ((40 : Nat) : Int) then
    td_l (td_upd D 33 (Int.toNat (D 32 5)) v1) fun D2 =>
    if 0 ≤ D2 32 5 ∧ D2 32 5 < ((40 : Nat) : Int) then
      td_l (td_upd D2 34 (Int.toNat (D2 32 5)) v2) fun D4 =>
      if 0 ≤ D4 32 5 ∧ D4 32 5 < ((40 : Nat) : Int) then
        td_l (td_upd D4 35 (Int.toNat (D4 32 5)) v3) fun D6 =>
        if 0 ≤ D6 32 5 ∧ D6 32 5 < ((40 : Nat) : Int) then
          td_l (td_upd D6 36 (Int.toNat (D6 32 5)) v4) fun D8 =>
          td_l (td_upd D8 32 5 (tv_w ((D8 32 5) + 1))) fun D9 =>
          td_l (td_upd D9 32 4 (D9 32 5)) fun D10 =>
          some (0, D10)
        else none
      else none
    else none
  else none
set_option maxHeartbeats 4000000 in
set_option maxRecDepth 20000 in
theorem S_X0_note_13 {l : Launch} {E : tv_E} (hE : tv_hE E) (d : Nat) (v1 : Int) (v2 : Int) (v3 : Int) (v4 : Int) (D : td_D) : td_sim l E (d + 2) mX0_note g_c 13 [tv_R 32, tv_I v1, tv_I v2, tv_I v3, tv_I v4] [] D (F_X0_note_13 v1 v2 v3 v4 D) := by
  unfold F_X0_note_13
  refine ts_aload_n (i := 0) rfl rfl dX0_note_13 ?_
  refine td_getR (q := 33) tl_X0_9 rfl ga_c_32 rfl dX0_note_14 ?_
  refine ts_aload_n (i := 0) rfl rfl dX0_note_17 ?_
  refine td_getI tl_X0_28 rfl ga_c_32 rfl dX0_note_18 ?_
  refine ts_iload_n (i := 1) rfl rfl dX0_note_21 ?_
  refine td_guard (fun h1 => ?_)
  refine td_iastK ga_c_33 (gn_c_33 _) h1 dX0_note_22 ?_
  refine td_let (fun D2 => ?_)
  refine ts_aload_n (i := 0) rfl rfl dX0_note_23 ?_
  refine td_getR (q := 34) tl_X0_15 rfl ga_c_32 rfl dX0_note_24 ?_
  refine ts_aload_n (i := 0) rfl rfl dX0_note_27 ?_
  refine td_getI tl_X0_28 rfl ga_c_32 rfl dX0_note_28 ?_
  refine ts_iload_n (i := 2) rfl rfl dX0_note_31 ?_
  refine td_guard (fun h3 => ?_)
  refine td_iastK ga_c_34 (gn_c_34 _) h3 dX0_note_32 ?_
  refine td_let (fun D4 => ?_)
  refine ts_aload_n (i := 0) rfl rfl dX0_note_33 ?_
  refine td_getR (q := 35) tl_X0_18 rfl ga_c_32 rfl dX0_note_34 ?_
  refine ts_aload_n (i := 0) rfl rfl dX0_note_37 ?_
  refine td_getI tl_X0_28 rfl ga_c_32 rfl dX0_note_38 ?_
  refine ts_iload_n (i := 3) rfl rfl dX0_note_41 ?_
  refine td_guard (fun h5 => ?_)
  refine td_iastK ga_c_35 (gn_c_35 _) h5 dX0_note_42 ?_
  refine td_let (fun D6 => ?_)
  refine ts_aload_n (i := 0) rfl rfl dX0_note_43 ?_
  refine td_getR (q := 36) tl_X0_21 rfl ga_c_32 rfl dX0_note_44 ?_
  refine ts_aload_n (i := 0) rfl rfl dX0_note_47 ?_
  refine td_getI tl_X0_28 rfl ga_c_32 rfl dX0_note_48 ?_
  refine ts_iload rfl dX0_note_51 ?_
  refine td_guard (fun h7 => ?_)
  refine td_iastK ga_c_36 (gn_c_36 _) h7 dX0_note_53 ?_
  refine td_let (fun D8 => ?_)
  refine ts_aload_n (i := 0) rfl rfl dX0_note_54 ?_
  refine ts_dupR dX0_note_55 ?_
  refine td_getI tl_X0_28 rfl ga_c_32 rfl dX0_note_56 ?_
  refine ts_iconst rfl dX0_note_59 ?_
  refine ts_iadd dX0_note_60 ?_
  refine td_putI tf_X0_28 (by intro h; cases h) rfl ga_c_32 rfl dX0_note_61 ?_
  refine td_let (fun D9 => ?_)
  refine ts_aload_n (i := 0) rfl rfl dX0_note_64 ?_
  refine ts_aload_n (i := 0) rfl rfl dX0_note_65 ?_
  refine td_getI tl_X0_28 rfl ga_c_32 rfl dX0_note_66 ?_
  refine td_putI tf_X0_24 (by intro h; cases h) rfl ga_c_32 rfl dX0_note_69 ?_
  refine td_let (fun D10 => ?_)
  exact td_vret rfl dX0_note_72
def F_X0_note (a1 : Int) (a2 : Int) (a3 : Int) (a4 : Int) (D : td_D) : Option (Int × td_D) :=
  if D 32 5 < 40 then
    F_X0_note_13 a1 a2 a3 a4 D
  else
    td_b (F_X0_forgetOldest D) fun _ D12 =>
    F_X0_note_13 a1 a2 a3 a4 D12
set_option maxHeartbeats 4000000 in
set_option maxRecDepth 20000 in
theorem S_X0_note (l : Launch) {E : tv_E} (hE : tv_hE E) (d : Nat) (a1 : Int) (a2 : Int) (a3 : Int) (a4 : Int) (D : td_D) : td_msim l E (d + 2) mX0_note g_c [tv_R 32, tv_I a1, tv_I a2, tv_I a3, tv_I a4] D (F_X0_note a1 a2 a3 a4 D) := by
  refine td_meetL (ls := [tv_R 32, tv_I a1, tv_I a2, tv_I a3, tv_I a4]) rfl (Nat.le_of_ble_eq_true rfl) rfl ?_
  unfold F_X0_note
  refine ts_aload_n (i := 0) rfl rfl dX0_note_0 ?_
  refine td_getI tl_X0_28 rfl ga_c_32 rfl dX0_note_1 ?_
  refine ts_bipush rfl dX0_note_4 ?_
  refine td_icmp_lt (tgt := 13) rfl dX0_note_6 ?_ ?_
  · exact S_X0_note_13 hE d a1 a2 a3 a4 D
  · refine ts_aload_n (i := 0) rfl rfl dX0_note_9 ?_
    refine tq_callV (y2 := mX0_forgetOldest) [] [] 32 (st' := fun _ => []) tw_X0_forgetOldest tx_X0_forgetOldest tw_c0 ga_c_32 tl_X0_31 rfl rfl rfl rfl (fun _ => rfl) dX0_note_10 (S_X0_forgetOldest l hE _ D) (fun r11 D12 => ?_)
    exact S_X0_note_13 hE d a1 a2 a3 a4 D12
def F_X1_add (p0 : Nat) (a1 : Int) (a2 : Int) (D : td_D) : Option (Int × td_D) :=
  if 128 ≤ D p0 3 then
    some (0, D)
  else
    if 0 ≤ D p0 3 ∧ D p0 3 < ((128 : Nat) : Int) then
      td_l (td_upd D (td_r g_c p0 0) (Int.toNat (D p0 3)) a1) fun D2 =>
      if 0 ≤ D2 p0 3 ∧ D2 p0 3 < ((128 : Nat) : Int) then
        td_l (td_upd D2 (td_r g_c p0 1) (Int.toNat (D2 p0 3)) a2) fun D4 =>
        td_l (td_upd D4 p0 3 (tv_w ((D4 p0 3) + 1))) fun D5 =>
        some (0, D5)
      else none
    else none
set_option maxHeartbeats 4000000 in
set_option maxRecDepth 20000 in
theorem S_X1_add (l : Launch) {E : tv_E} (hE : tv_hE E) (d : Nat) (p0 : Nat) (a1 : Int) (a2 : Int) (hp0 : tv_isCode p0) (D : td_D) : td_msim l E (d + 0) mX1_add g_c [tv_R p0, tv_I a1, tv_I a2] D (F_X1_add p0 a1 a2 D) := by
  refine td_meetL (ls := [tv_R p0, tv_I a1, tv_I a2]) rfl (Nat.le_of_ble_eq_true rfl) rfl ?_
  unfold F_X1_add
  refine ts_aload_n (i := 0) rfl rfl dX1_add_0 ?_
  refine td_getI tl_X1_21 rfl hp0.1 hp0.2.2.2.2 dX1_add_1 ?_
  refine ts_sipush rfl dX1_add_4 ?_
  refine td_icmp_ge (tgt := 40) rfl dX1_add_7 ?_ ?_
  · exact td_vret rfl dX1_add_40
  · refine ts_aload_n (i := 0) rfl rfl dX1_add_10 ?_
    refine td_getR (q := td_r g_c p0 0) tl_X1_9 rfl hp0.1 hp0.2.1.1 dX1_add_11 ?_
    refine ts_aload_n (i := 0) rfl rfl dX1_add_14 ?_
    refine td_getI tl_X1_21 rfl hp0.1 hp0.2.2.2.2 dX1_add_15 ?_
    refine ts_iload_n (i := 1) rfl rfl dX1_add_18 ?_
    refine td_guard (fun h1 => ?_)
    refine td_iastK hp0.2.1.2.1 (hp0.2.1.2.2 _) h1 dX1_add_19 ?_
    refine td_let (fun D2 => ?_)
    refine ts_aload_n (i := 0) rfl rfl dX1_add_20 ?_
    refine td_getR (q := td_r g_c p0 1) tl_X1_15 rfl hp0.1 hp0.2.2.1.1 dX1_add_21 ?_
    refine ts_aload_n (i := 0) rfl rfl dX1_add_24 ?_
    refine td_getI tl_X1_21 rfl hp0.1 hp0.2.2.2.2 dX1_add_25 ?_
    refine ts_iload_n (i := 2) rfl rfl dX1_add_28 ?_
    refine td_guard (fun h3 => ?_)
    refine td_iastK hp0.2.2.1.2.1 (hp0.2.2.1.2.2 _) h3 dX1_add_29 ?_
    refine td_let (fun D4 => ?_)
    refine ts_aload_n (i := 0) rfl rfl dX1_add_30 ?_
    refine ts_dupR dX1_add_31 ?_
    refine td_getI tl_X1_21 rfl hp0.1 hp0.2.2.2.2 dX1_add_32 ?_
    refine ts_iconst rfl dX1_add_35 ?_
    refine ts_iadd dX1_add_36 ?_
    refine td_putI tf_X1_21 (by intro h; cases h) rfl hp0.1 hp0.2.2.2.2 dX1_add_37 ?_
    refine td_let (fun D5 => ?_)
    exact td_vret rfl dX1_add_40
def F_X1_landHere (p0 : Nat) (a1 : Int) (D : td_D) : Option (Int × td_D) :=
  if a1 < 0 then
    some (0, D)
  else
    if D p0 3 ≤ a1 then
      some (0, D)
    else
      if 0 ≤ a1 ∧ a1 < ((128 : Nat) : Int) then
        td_l (td_upd D (td_r g_c p0 1) (Int.toNat a1) (D p0 3)) fun D2 =>
        some (0, D2)
      else none
set_option maxHeartbeats 4000000 in
set_option maxRecDepth 20000 in
theorem S_X1_landHere (l : Launch) {E : tv_E} (hE : tv_hE E) (d : Nat) (p0 : Nat) (a1 : Int) (hp0 : tv_isCode p0) (D : td_D) : td_msim l E (d + 0) mX1_landHere g_c [tv_R p0, tv_I a1] D (F_X1_landHere p0 a1 D) := by
  refine td_meetL (ls := [tv_R p0, tv_I a1]) rfl (Nat.le_of_ble_eq_true rfl) rfl ?_
  unfold F_X1_landHere
  refine ts_iload_n (i := 1) rfl rfl dX1_landHere_0 ?_
  refine td_if_lt (tgt := 22) rfl dX1_landHere_1 ?_ ?_
  · exact td_vret rfl dX1_landHere_22
  · refine ts_iload_n (i := 1) rfl rfl dX1_landHere_4 ?_
    refine ts_aload_n (i := 0) rfl rfl dX1_landHere_5 ?_
    refine td_getI tl_X1_21 rfl hp0.1 hp0.2.2.2.2 dX1_landHere_6 ?_
    refine td_icmp_ge (tgt := 22) rfl dX1_landHere_9 ?_ ?_
    · exact td_vret rfl dX1_landHere_22
    · refine ts_aload_n (i := 0) rfl rfl dX1_landHere_12 ?_
      refine td_getR (q := td_r g_c p0 1) tl_X1_15 rfl hp0.1 hp0.2.2.1.1 dX1_landHere_13 ?_
      refine ts_iload_n (i := 1) rfl rfl dX1_landHere_16 ?_
      refine ts_aload_n (i := 0) rfl rfl dX1_landHere_17 ?_
      refine td_getI tl_X1_21 rfl hp0.1 hp0.2.2.2.2 dX1_landHere_18 ?_
      refine td_guard (fun h1 => ?_)
      refine td_iastK hp0.2.2.1.2.1 (hp0.2.2.1.2.2 _) h1 dX1_landHere_21 ?_
      refine td_let (fun D2 => ?_)
      exact td_vret rfl dX1_landHere_22
def F_X1_truth (a0 : Int) (D : td_D) : Option (Int × td_D) :=
  if a0 = 0 then
    some (0, D)
  else
    some (1, D)
set_option maxHeartbeats 4000000 in
set_option maxRecDepth 20000 in
theorem S_X1_truth (l : Launch) {E : tv_E} (hE : tv_hE E) (d : Nat) (a0 : Int) (D : td_D) : td_msim l E (d + 0) mX1_truth g_c [tv_I a0] D (F_X1_truth a0 D) := by
  refine td_meetL (ls := [tv_I a0]) rfl (Nat.le_of_ble_eq_true rfl) rfl ?_
  unfold F_X1_truth
  refine ts_iload_n (i := 0) rfl rfl dX1_truth_0 ?_
  refine td_if_eq (tgt := 8) rfl dX1_truth_1 ?_ ?_
  · refine ts_iconst rfl dX1_truth_8 ?_
    exact td_iret rfl dX1_truth_9
  · refine ts_iconst rfl dX1_truth_4 ?_
    refine ts_goto (tgt := 9) rfl dX1_truth_5 ?_
    exact td_iret rfl dX1_truth_9
def F_X1_joined (a0 : Int) (a1 : Int) (a2 : Int) (D : td_D) : Option (Int × td_D) :=
  if a0 = 37 then
    if a2 = 0 then
      some (0, D)
    else
      if a2 = 0 then none else
        some (tv_rem a1 a2, D)
  else if a0 = 38 then
    if a1 = 0 then
      td_b (F_X1_truth 0 D) fun r4 D5 =>
      some (r4, D5)
    else
      if a2 = 0 then
        td_b (F_X1_truth 0 D) fun r6 D7 =>
        some (r6, D7)
      else
        td_b (F_X1_truth 1 D) fun r8 D9 =>
        some (r8, D9)
  else if a0 = 42 then
    some (tv_w (a1 * a2), D)
  else if a0 = 43 then
    some (tv_w (a1 + a2), D)
  else if a0 = 45 then
    some (tv_w (a1 - a2), D)
  else if a0 = 47 then
    if a2 = 0 then
      some (0, D)
    else
      if a2 = 0 then none else
        some (tv_div a1 a2, D)
  else if a0 = 60 then
    if a2 ≤ a1 then
      td_b (F_X1_truth 0 D) fun r16 D17 =>
      some (r16, D17)
    else
      td_b (F_X1_truth 1 D) fun r18 D19 =>
      some (r18, D19)
  else if a0 = 61 then
    if a1 = a2 then
      td_b (F_X1_truth 1 D) fun r21 D22 =>
      some (r21, D22)
    else
      td_b (F_X1_truth 0 D) fun r23 D24 =>
      some (r23, D24)
  else if a0 = 62 then
    if a1 ≤ a2 then
      td_b (F_X1_truth 0 D) fun r26 D27 =>
      some (r26, D27)
    else
      td_b (F_X1_truth 1 D) fun r28 D29 =>
      some (r28, D29)
  else if a0 = 124 then
    if a1 = 0 then
      if a2 = 0 then
        td_b (F_X1_truth 0 D) fun r31 D32 =>
        some (r31, D32)
      else
        td_b (F_X1_truth 1 D) fun r33 D34 =>
        some (r33, D34)
    else
      td_b (F_X1_truth 1 D) fun r35 D36 =>
      some (r35, D36)
  else
    some (0, D)
set_option maxHeartbeats 4000000 in
set_option maxRecDepth 20000 in
theorem S_X1_joined (l : Launch) {E : tv_E} (hE : tv_hE E) (d : Nat) (a0 : Int) (a1 : Int) (a2 : Int) (D : td_D) : td_msim l E (d + 1) mX1_joined g_c [tv_I a0, tv_I a1, tv_I a2] D (F_X1_joined a0 a1 a2 D) := by
  refine td_meetL (ls := [tv_I a0, tv_I a1, tv_I a2]) rfl (Nat.le_of_ble_eq_true rfl) rfl ?_
  unfold F_X1_joined
  refine ts_iload_n (i := 0) rfl rfl dX1_joined_0 ?_
  refine td_ite (fun h1 => ?_) (fun h1 => ?_)
  · refine ts_look (off := 191) (tgt := 192) (by decide) (by rw [h1]; rfl) rfl dX1_joined_1 ?_
    refine ts_iload_n (i := 2) rfl rfl dX1_joined_192 ?_
    refine td_if_ne (tgt := 200) rfl dX1_joined_193 ?_ ?_
    · refine ts_iconst rfl dX1_joined_196 ?_
      refine ts_goto (tgt := 203) rfl dX1_joined_197 ?_
      exact td_iret rfl dX1_joined_203
    · refine ts_iload_n (i := 1) rfl rfl dX1_joined_200 ?_
      refine ts_iload_n (i := 2) rfl rfl dX1_joined_201 ?_
      refine td_ite (fun _ => tv_none) (fun h2 => ?_)
      refine td_iremK h2 dX1_joined_202 ?_
      exact td_iret rfl dX1_joined_203
  refine td_ite (fun h3 => ?_) (fun h3 => ?_)
  · refine ts_look (off := 108) (tgt := 109) (by decide) (by rw [h3]; rfl) rfl dX1_joined_1 ?_
    refine ts_iload_n (i := 1) rfl rfl dX1_joined_109 ?_
    refine td_if_eq (tgt := 121) rfl dX1_joined_110 ?_ ?_
    · refine ts_iconst rfl dX1_joined_121 ?_
      refine tq_callS (y2 := mX1_truth) [tv_I 0] [] (st' := fun r4 => [tv_I r4]) tw_X1_truth tx_X1_truth tl_X1_31 rfl rfl rfl rfl (fun _ => rfl) dX1_joined_122 (S_X1_truth l hE _ 0 D) (fun r4 D5 => ?_)
      exact td_iret rfl dX1_joined_125
    · refine ts_iload_n (i := 2) rfl rfl dX1_joined_113 ?_
      refine td_if_eq (tgt := 121) rfl dX1_joined_114 ?_ ?_
      · refine ts_iconst rfl dX1_joined_121 ?_
        refine tq_callS (y2 := mX1_truth) [tv_I 0] [] (st' := fun r6 => [tv_I r6]) tw_X1_truth tx_X1_truth tl_X1_31 rfl rfl rfl rfl (fun _ => rfl) dX1_joined_122 (S_X1_truth l hE _ 0 D) (fun r6 D7 => ?_)
        exact td_iret rfl dX1_joined_125
      · refine ts_iconst rfl dX1_joined_117 ?_
        refine ts_goto (tgt := 122) rfl dX1_joined_118 ?_
        refine tq_callS (y2 := mX1_truth) [tv_I 1] [] (st' := fun r8 => [tv_I r8]) tw_X1_truth tx_X1_truth tl_X1_31 rfl rfl rfl rfl (fun _ => rfl) dX1_joined_122 (S_X1_truth l hE _ 1 D) (fun r8 D9 => ?_)
        exact td_iret rfl dX1_joined_125
  refine td_ite (fun h10 => ?_) (fun h10 => ?_)
  · refine ts_look (off := 175) (tgt := 176) (by decide) (by rw [h10]; rfl) rfl dX1_joined_1 ?_
    refine ts_iload_n (i := 1) rfl rfl dX1_joined_176 ?_
    refine ts_iload_n (i := 2) rfl rfl dX1_joined_177 ?_
    refine ts_imul dX1_joined_178 ?_
    exact td_iret rfl dX1_joined_179
  refine td_ite (fun h11 => ?_) (fun h11 => ?_)
  · refine ts_look (off := 167) (tgt := 168) (by decide) (by rw [h11]; rfl) rfl dX1_joined_1 ?_
    refine ts_iload_n (i := 1) rfl rfl dX1_joined_168 ?_
    refine ts_iload_n (i := 2) rfl rfl dX1_joined_169 ?_
    refine ts_iadd dX1_joined_170 ?_
    exact td_iret rfl dX1_joined_171
  refine td_ite (fun h12 => ?_) (fun h12 => ?_)
  · refine ts_look (off := 171) (tgt := 172) (by decide) (by rw [h12]; rfl) rfl dX1_joined_1 ?_
    refine ts_iload_n (i := 1) rfl rfl dX1_joined_172 ?_
    refine ts_iload_n (i := 2) rfl rfl dX1_joined_173 ?_
    refine ts_isub dX1_joined_174 ?_
    exact td_iret rfl dX1_joined_175
  refine td_ite (fun h13 => ?_) (fun h13 => ?_)
  · refine ts_look (off := 179) (tgt := 180) (by decide) (by rw [h13]; rfl) rfl dX1_joined_1 ?_
    refine ts_iload_n (i := 2) rfl rfl dX1_joined_180 ?_
    refine td_if_ne (tgt := 188) rfl dX1_joined_181 ?_ ?_
    · refine ts_iconst rfl dX1_joined_184 ?_
      refine ts_goto (tgt := 191) rfl dX1_joined_185 ?_
      exact td_iret rfl dX1_joined_191
    · refine ts_iload_n (i := 1) rfl rfl dX1_joined_188 ?_
      refine ts_iload_n (i := 2) rfl rfl dX1_joined_189 ?_
      refine td_ite (fun _ => tv_none) (fun h14 => ?_)
      refine td_idivK h14 dX1_joined_190 ?_
      exact td_iret rfl dX1_joined_191
  refine td_ite (fun h15 => ?_) (fun h15 => ?_)
  · refine ts_look (off := 125) (tgt := 126) (by decide) (by rw [h15]; rfl) rfl dX1_joined_1 ?_
    refine ts_iload_n (i := 1) rfl rfl dX1_joined_126 ?_
    refine ts_iload_n (i := 2) rfl rfl dX1_joined_127 ?_
    refine td_icmp_ge (tgt := 135) rfl dX1_joined_128 ?_ ?_
    · refine ts_iconst rfl dX1_joined_135 ?_
      refine tq_callS (y2 := mX1_truth) [tv_I 0] [] (st' := fun r16 => [tv_I r16]) tw_X1_truth tx_X1_truth tl_X1_31 rfl rfl rfl rfl (fun _ => rfl) dX1_joined_136 (S_X1_truth l hE _ 0 D) (fun r16 D17 => ?_)
      exact td_iret rfl dX1_joined_139
    · refine ts_iconst rfl dX1_joined_131 ?_
      refine ts_goto (tgt := 136) rfl dX1_joined_132 ?_
      refine tq_callS (y2 := mX1_truth) [tv_I 1] [] (st' := fun r18 => [tv_I r18]) tw_X1_truth tx_X1_truth tl_X1_31 rfl rfl rfl rfl (fun _ => rfl) dX1_joined_136 (S_X1_truth l hE _ 1 D) (fun r18 D19 => ?_)
      exact td_iret rfl dX1_joined_139
  refine td_ite (fun h20 => ?_) (fun h20 => ?_)
  · refine ts_look (off := 139) (tgt := 140) (by decide) (by rw [h20]; rfl) rfl dX1_joined_1 ?_
    refine ts_iload_n (i := 1) rfl rfl dX1_joined_140 ?_
    refine ts_iload_n (i := 2) rfl rfl dX1_joined_141 ?_
    refine td_icmp_ne (tgt := 149) rfl dX1_joined_142 ?_ ?_
    · refine ts_iconst rfl dX1_joined_145 ?_
      refine ts_goto (tgt := 150) rfl dX1_joined_146 ?_
      refine tq_callS (y2 := mX1_truth) [tv_I 1] [] (st' := fun r21 => [tv_I r21]) tw_X1_truth tx_X1_truth tl_X1_31 rfl rfl rfl rfl (fun _ => rfl) dX1_joined_150 (S_X1_truth l hE _ 1 D) (fun r21 D22 => ?_)
      exact td_iret rfl dX1_joined_153
    · refine ts_iconst rfl dX1_joined_149 ?_
      refine tq_callS (y2 := mX1_truth) [tv_I 0] [] (st' := fun r23 => [tv_I r23]) tw_X1_truth tx_X1_truth tl_X1_31 rfl rfl rfl rfl (fun _ => rfl) dX1_joined_150 (S_X1_truth l hE _ 0 D) (fun r23 D24 => ?_)
      exact td_iret rfl dX1_joined_153
  refine td_ite (fun h25 => ?_) (fun h25 => ?_)
  · refine ts_look (off := 153) (tgt := 154) (by decide) (by rw [h25]; rfl) rfl dX1_joined_1 ?_
    refine ts_iload_n (i := 1) rfl rfl dX1_joined_154 ?_
    refine ts_iload_n (i := 2) rfl rfl dX1_joined_155 ?_
    refine td_icmp_le (tgt := 163) rfl dX1_joined_156 ?_ ?_
    · refine ts_iconst rfl dX1_joined_163 ?_
      refine tq_callS (y2 := mX1_truth) [tv_I 0] [] (st' := fun r26 => [tv_I r26]) tw_X1_truth tx_X1_truth tl_X1_31 rfl rfl rfl rfl (fun _ => rfl) dX1_joined_164 (S_X1_truth l hE _ 0 D) (fun r26 D27 => ?_)
      exact td_iret rfl dX1_joined_167
    · refine ts_iconst rfl dX1_joined_159 ?_
      refine ts_goto (tgt := 164) rfl dX1_joined_160 ?_
      refine tq_callS (y2 := mX1_truth) [tv_I 1] [] (st' := fun r28 => [tv_I r28]) tw_X1_truth tx_X1_truth tl_X1_31 rfl rfl rfl rfl (fun _ => rfl) dX1_joined_164 (S_X1_truth l hE _ 1 D) (fun r28 D29 => ?_)
      exact td_iret rfl dX1_joined_167
  refine td_ite (fun h30 => ?_) (fun h30 => ?_)
  · refine ts_look (off := 91) (tgt := 92) (by decide) (by rw [h30]; rfl) rfl dX1_joined_1 ?_
    refine ts_iload_n (i := 1) rfl rfl dX1_joined_92 ?_
    refine td_if_ne (tgt := 100) rfl dX1_joined_93 ?_ ?_
    · refine ts_iload_n (i := 2) rfl rfl dX1_joined_96 ?_
      refine td_if_eq (tgt := 104) rfl dX1_joined_97 ?_ ?_
      · refine ts_iconst rfl dX1_joined_104 ?_
        refine tq_callS (y2 := mX1_truth) [tv_I 0] [] (st' := fun r31 => [tv_I r31]) tw_X1_truth tx_X1_truth tl_X1_31 rfl rfl rfl rfl (fun _ => rfl) dX1_joined_105 (S_X1_truth l hE _ 0 D) (fun r31 D32 => ?_)
        exact td_iret rfl dX1_joined_108
      · refine ts_iconst rfl dX1_joined_100 ?_
        refine ts_goto (tgt := 105) rfl dX1_joined_101 ?_
        refine tq_callS (y2 := mX1_truth) [tv_I 1] [] (st' := fun r33 => [tv_I r33]) tw_X1_truth tx_X1_truth tl_X1_31 rfl rfl rfl rfl (fun _ => rfl) dX1_joined_105 (S_X1_truth l hE _ 1 D) (fun r33 D34 => ?_)
        exact td_iret rfl dX1_joined_108
    · refine ts_iconst rfl dX1_joined_100 ?_
      refine ts_goto (tgt := 105) rfl dX1_joined_101 ?_
      refine tq_callS (y2 := mX1_truth) [tv_I 1] [] (st' := fun r35 => [tv_I r35]) tw_X1_truth tx_X1_truth tl_X1_31 rfl rfl rfl rfl (fun _ => rfl) dX1_joined_105 (S_X1_truth l hE _ 1 D) (fun r35 D36 => ?_)
      exact td_iret rfl dX1_joined_108
  refine ts_look (off := 203) (tgt := 204) (by decide) (tv_lookd (by simp only [List.all_cons, List.all_nil, Bool.and_true, Bool.and_eq_true, decide_eq_true_eq]; exact ⟨h1, h3, h10, h11, h12, h13, h15, h20, h25, h30⟩)) rfl dX1_joined_1 ?_
  refine ts_iconst rfl dX1_joined_204 ?_
  exact td_iret rfl dX1_joined_205
def F_X1_workOut_225 (k4 : Nat → Int → Int → td_D → Option (Int × td_D)) (v0 : Nat) (v2 : Int) (v3 : Int) (D : td_D) : Option (Int × td_D) :=
  k4 v0 v2 (tv_w (v3 + 1)) D
set_option maxHeartbeats 4000000 in
set_option maxRecDepth 20000 in
theorem S_X1_workOut_225 {l : Launch} {E : tv_E} (hE : tv_hE E) (d : Nat) (k4 : Nat → Int → Int → td_D → Option (Int × td_D)) (hk4 : ∀ (v0 : Nat) (v2 : Int) (v3 : Int) (D : td_D), tv_isCode v0 → td_sim l E (d + 2) mX1_workOut g_c 4 [tv_R v0, tv_R 20, tv_I v2, tv_I v3, tv_U] [] D (k4 v0 v2 v3 D)) (v0 : Nat) (v2 : Int) (v3 : Int) (hv0 : tv_isCode v0) (D : td_D) : td_sim l E (d + 2) mX1_workOut g_c 225 [tv_R v0, tv_R 20, tv_I v2, tv_I v3, tv_U] [] D (F_X1_workOut_225 k4 v0 v2 v3 D) := by
  unfold F_X1_workOut_225
  refine tq_iinc [tv_R v0, tv_R 20, tv_I v2, tv_I (tv_w (v3 + 1)), tv_U] rfl rfl rfl dX1_workOut_225 ?_
  refine ts_goto (tgt := 4) rfl dX1_workOut_228 ?_
  exact hk4 v0 v2 (tv_w (v3 + 1)) D hv0
def F_X1_workOut_32 (k4 : Nat → Int → Int → td_D → Option (Int × td_D)) (v0 : Nat) (v2 : Int) (v3 : Int) (v4 : Int) (D : td_D) : Option (Int × td_D) :=
  if v4 = 1 then
    if 0 ≤ v3 ∧ v3 < ((128 : Nat) : Int) then
      if 0 ≤ v2 ∧ v2 < ((128 : Nat) : Int) then
        td_l (td_upd D (td_r g_c v0 2) (Int.toNat v2) (D (td_r g_c v0 1) (Int.toNat v3))) fun D3 =>
        F_X1_workOut_225 k4 v0 (tv_w (v2 + 1)) v3 D3
      else none
    else none
  else
    if 0 ≤ v3 ∧ v3 < ((128 : Nat) : Int) then
      if 0 ≤ D (td_r g_c v0 1) (Int.toNat v3) ∧ D (td_r g_c v0 1) (Int.toNat v3) < ((6 : Nat) : Int) then
        if 0 ≤ v2 ∧ v2 < ((128 : Nat) : Int) then
          td_l (td_upd D (td_r g_c v0 2) (Int.toNat v2) (D 20 (Int.toNat (D (td_r g_c v0 1) (Int.toNat v3))))) fun D7 =>
          F_X1_workOut_225 k4 v0 (tv_w (v2 + 1)) v3 D7
        else none
      else none
    else none
set_option maxHeartbeats 4000000 in
set_option maxRecDepth 20000 in
theorem S_X1_workOut_32 {l : Launch} {E : tv_E} (hE : tv_hE E) (d : Nat) (k4 : Nat → Int → Int → td_D → Option (Int × td_D)) (hk4 : ∀ (v0 : Nat) (v2 : Int) (v3 : Int) (D : td_D), tv_isCode v0 → td_sim l E (d + 2) mX1_workOut g_c 4 [tv_R v0, tv_R 20, tv_I v2, tv_I v3, tv_U] [] D (k4 v0 v2 v3 D)) (v0 : Nat) (v2 : Int) (v3 : Int) (v4 : Int) (hv0 : tv_isCode v0) (D : td_D) : td_sim l E (d + 2) mX1_workOut g_c 32 [tv_R v0, tv_R 20, tv_I v2, tv_I v3, tv_I v4] [] D (F_X1_workOut_32 k4 v0 v2 v3 v4 D) := by
  unfold F_X1_workOut_32
  refine ts_aload_n (i := 0) rfl rfl dX1_workOut_32 ?_
  refine td_getR (q := td_r g_c v0 2) tl_X1_18 rfl hv0.1 hv0.2.2.2.1.1 dX1_workOut_33 ?_
  refine ts_iload_n (i := 2) rfl rfl dX1_workOut_36 ?_
  refine ts_iload rfl dX1_workOut_37 ?_
  refine ts_iconst rfl dX1_workOut_39 ?_
  refine td_icmp_ne (tgt := 52) rfl dX1_workOut_40 ?_ ?_
  · refine ts_aload_n (i := 0) rfl rfl dX1_workOut_43 ?_
    refine td_getR (q := td_r g_c v0 1) tl_X1_15 rfl hv0.1 hv0.2.2.1.1 dX1_workOut_44 ?_
    refine ts_iload_n (i := 3) rfl rfl dX1_workOut_47 ?_
    refine td_guard (fun h1 => ?_)
    refine td_ialdK hv0.2.2.1.2.1 (hv0.2.2.1.2.2 _) h1 dX1_workOut_48 ?_
    refine ts_goto (tgt := 60) rfl dX1_workOut_49 ?_
    refine td_guard (fun h2 => ?_)
    refine td_iastK hv0.2.2.2.1.2.1 (hv0.2.2.2.1.2.2 _) h2 dX1_workOut_60 ?_
    refine td_let (fun D3 => ?_)
    refine tq_iinc [tv_R v0, tv_R 20, tv_I (tv_w (v2 + 1)), tv_I v3, tv_I v4] rfl rfl rfl dX1_workOut_61 ?_
    refine ts_goto (tgt := 225) rfl dX1_workOut_64 ?_
    refine tv_weak (ls' := [tv_R v0, tv_R 20, tv_I (tv_w (v2 + 1)), tv_I v3, tv_U]) ⟨Or.inr rfl, Or.inr rfl, Or.inr rfl, Or.inr rfl, Or.inl rfl, trivial⟩ ?_
    exact S_X1_workOut_225 hE d k4 (hk4) v0 (tv_w (v2 + 1)) v3 hv0 D3
  · refine ts_aload_n (i := 1) rfl rfl dX1_workOut_52 ?_
    refine ts_aload_n (i := 0) rfl rfl dX1_workOut_53 ?_
    refine td_getR (q := td_r g_c v0 1) tl_X1_15 rfl hv0.1 hv0.2.2.1.1 dX1_workOut_54 ?_
    refine ts_iload_n (i := 3) rfl rfl dX1_workOut_57 ?_
    refine td_guard (fun h4 => ?_)
    refine td_ialdK hv0.2.2.1.2.1 (hv0.2.2.1.2.2 _) h4 dX1_workOut_58 ?_
    refine td_guard (fun h5 => ?_)
    refine td_ialdK ga_c_20 (gn_c_20 _) h5 dX1_workOut_59 ?_
    refine td_guard (fun h6 => ?_)
    refine td_iastK hv0.2.2.2.1.2.1 (hv0.2.2.2.1.2.2 _) h6 dX1_workOut_60 ?_
    refine td_let (fun D7 => ?_)
    refine tq_iinc [tv_R v0, tv_R 20, tv_I (tv_w (v2 + 1)), tv_I v3, tv_I v4] rfl rfl rfl dX1_workOut_61 ?_
    refine ts_goto (tgt := 225) rfl dX1_workOut_64 ?_
    refine tv_weak (ls' := [tv_R v0, tv_R 20, tv_I (tv_w (v2 + 1)), tv_I v3, tv_U]) ⟨Or.inr rfl, Or.inr rfl, Or.inr rfl, Or.inr rfl, Or.inl rfl, trivial⟩ ?_
    exact S_X1_workOut_225 hE d k4 (hk4) v0 (tv_w (v2 + 1)) v3 hv0 D7
def F_X1_workOut_4 : Nat → Nat → Int → Int → td_D → Option (Int × td_D)
  | 0, _, _, _, _ => none
  | n + 1, v0, v2, v3, D =>
    if D v0 3 ≤ v3 then
      some (0, D)
    else
      if 0 ≤ v3 ∧ v3 < ((128 : Nat) : Int) then
        if D (td_r g_c v0 0) (Int.toNat v3) = 1 then
          F_X1_workOut_32 (fun v0 v2 v3 D => F_X1_workOut_4 n v0 v2 v3 D) v0 v2 v3 (D (td_r g_c v0 0) (Int.toNat v3)) D
        else
          if D (td_r g_c v0 0) (Int.toNat v3) = 2 then
            F_X1_workOut_32 (fun v0 v2 v3 D => F_X1_workOut_4 n v0 v2 v3 D) v0 v2 v3 (D (td_r g_c v0 0) (Int.toNat v3)) D
          else
            if 1 ≤ v2 then
              if D (td_r g_c v0 0) (Int.toNat v3) = 5 then
                if 0 ≤ tv_w (v2 - 1) ∧ tv_w (v2 - 1) < ((128 : Nat) : Int) then
                  some (D (td_r g_c v0 2) (Int.toNat (tv_w (v2 - 1))), D)
                else none
              else
                if D (td_r g_c v0 0) (Int.toNat v3) = 6 then
                  if 0 ≤ tv_w (v2 + (-1)) ∧ tv_w (v2 + (-1)) < ((128 : Nat) : Int) then
                    if D (td_r g_c v0 2) (Int.toNat (tv_w (v2 + (-1)))) = 0 then
                      F_X1_workOut_225 (fun v0 v2 v3 D => F_X1_workOut_4 n v0 v2 v3 D) v0 (tv_w (v2 + (-1))) (tv_max v3 (tv_w ((D (td_r g_c v0 1) (Int.toNat v3)) - 1))) D
                    else
                      F_X1_workOut_225 (fun v0 v2 v3 D => F_X1_workOut_4 n v0 v2 v3 D) v0 (tv_w (v2 + (-1))) v3 D
                  else none
                else
                  if D (td_r g_c v0 0) (Int.toNat v3) = 3 then
                    if 0 ≤ tv_w (v2 - 1) ∧ tv_w (v2 - 1) < ((128 : Nat) : Int) then
                      td_l (td_upd D (td_r g_c v0 2) (Int.toNat (tv_w (v2 - 1))) (tv_w (-(D (td_r g_c v0 2) (Int.toNat (tv_w (v2 - 1))))))) fun D12 =>
                      F_X1_workOut_225 (fun v0 v2 v3 D => F_X1_workOut_4 n v0 v2 v3 D) v0 v2 v3 D12
                    else none
                  else
                    if D (td_r g_c v0 0) (Int.toNat v3) = 4 then
                      if 0 ≤ tv_w (v2 - 1) ∧ tv_w (v2 - 1) < ((128 : Nat) : Int) then
                        if D (td_r g_c v0 2) (Int.toNat (tv_w (v2 - 1))) = 0 then
                          td_b (F_X1_truth 1 D) fun r14 D15 =>
                          td_l (td_upd D15 (td_r g_c v0 2) (Int.toNat (tv_w (v2 - 1))) r14) fun D16 =>
                          F_X1_workOut_225 (fun v0 v2 v3 D => F_X1_workOut_4 n v0 v2 v3 D) v0 v2 v3 D16
                        else
                          td_b (F_X1_truth 0 D) fun r17 D18 =>
                          td_l (td_upd D18 (td_r g_c v0 2) (Int.toNat (tv_w (v2 - 1))) r17) fun D19 =>
                          F_X1_workOut_225 (fun v0 v2 v3 D => F_X1_workOut_4 n v0 v2 v3 D) v0 v2 v3 D19
                      else none
                    else
                      if v2 < 2 then
                        F_X1_workOut_225 (fun v0 v2 v3 D => F_X1_workOut_4 n v0 v2 v3 D) v0 v2 v3 D
                      else
                        if 0 ≤ tv_w ((tv_w (v2 + (-1))) - 1) ∧ tv_w ((tv_w (v2 + (-1))) - 1) < ((128 : Nat) : Int) then
                          if 0 ≤ tv_w (v2 + (-1)) ∧ tv_w (v2 + (-1)) < ((128 : Nat) : Int) then
                            td_b (F_X1_joined (D (td_r g_c v0 0) (Int.toNat v3)) (D (td_r g_c v0 2) (Int.toNat (tv_w ((tv_w (v2 + (-1))) - 1)))) (D (td_r g_c v0 2) (Int.toNat (tv_w (v2 + (-1))))) D) fun r22 D23 =>
                            td_l (td_upd D23 (td_r g_c v0 2) (Int.toNat (tv_w ((tv_w (v2 + (-1))) - 1))) r22) fun D24 =>
                            F_X1_workOut_225 (fun v0 v2 v3 D => F_X1_workOut_4 n v0 v2 v3 D) v0 (tv_w (v2 + (-1))) v3 D24
                          else none
                        else none
            else
              some (0, D)
      else none
set_option maxHeartbeats 4000000 in
set_option maxRecDepth 20000 in
theorem S_X1_workOut_4 {l : Launch} {E : tv_E} (hE : tv_hE E) (d : Nat) : ∀ (n : Nat) (v0 : Nat) (v2 : Int) (v3 : Int) (D : td_D), tv_isCode v0 → td_sim l E (d + 2) mX1_workOut g_c 4 [tv_R v0, tv_R 20, tv_I v2, tv_I v3, tv_U] [] D (F_X1_workOut_4 n v0 v2 v3 D) := by
  intro n
  induction n with
  | zero => intros; exact tv_none
  | succ n ih =>
    intro v0 v2 v3 D hv0
    show td_sim _ _ _ _ _ _ _ _ _ (F_X1_workOut_4 (n + 1) v0 v2 v3 D)
    unfold F_X1_workOut_4
    refine ts_iload_n (i := 3) rfl rfl dX1_workOut_4 ?_
    refine ts_aload_n (i := 0) rfl rfl dX1_workOut_5 ?_
    refine td_getI tl_X1_21 rfl hv0.1 hv0.2.2.2.2 dX1_workOut_6 ?_
    refine td_icmp_ge (tgt := 231) rfl dX1_workOut_9 ?_ ?_
    · refine ts_iconst rfl dX1_workOut_231 ?_
      exact td_iret rfl dX1_workOut_232
    · refine ts_aload_n (i := 0) rfl rfl dX1_workOut_12 ?_
      refine td_getR (q := td_r g_c v0 0) tl_X1_9 rfl hv0.1 hv0.2.1.1 dX1_workOut_13 ?_
      refine ts_iload_n (i := 3) rfl rfl dX1_workOut_16 ?_
      refine td_guard (fun h8 => ?_)
      refine td_ialdK hv0.2.1.2.1 (hv0.2.1.2.2 _) h8 dX1_workOut_17 ?_
      refine tq_istore [tv_R v0, tv_R 20, tv_I v2, tv_I v3, tv_I (D (td_r g_c v0 0) (Int.toNat v3))] (Nat.le_of_ble_eq_true rfl) rfl rfl dX1_workOut_18 ?_
      refine ts_iload rfl dX1_workOut_20 ?_
      refine ts_iconst rfl dX1_workOut_22 ?_
      refine td_icmp_eq (tgt := 32) rfl dX1_workOut_23 ?_ ?_
      · exact S_X1_workOut_32 hE d (fun v0 v2 v3 D => F_X1_workOut_4 n v0 v2 v3 D) (fun v0 v2 v3 D hv0 => ih v0 v2 v3 D hv0) v0 v2 v3 (D (td_r g_c v0 0) (Int.toNat v3)) hv0 D
      · refine ts_iload rfl dX1_workOut_26 ?_
        refine ts_iconst rfl dX1_workOut_28 ?_
        refine td_icmp_ne (tgt := 67) rfl dX1_workOut_29 ?_ ?_
        · exact S_X1_workOut_32 hE d (fun v0 v2 v3 D => F_X1_workOut_4 n v0 v2 v3 D) (fun v0 v2 v3 D hv0 => ih v0 v2 v3 D hv0) v0 v2 v3 (D (td_r g_c v0 0) (Int.toNat v3)) hv0 D
        · refine ts_iload_n (i := 2) rfl rfl dX1_workOut_67 ?_
          refine ts_iconst rfl dX1_workOut_68 ?_
          refine td_icmp_ge (tgt := 74) rfl dX1_workOut_69 ?_ ?_
          · refine ts_iload rfl dX1_workOut_74 ?_
            refine ts_iconst rfl dX1_workOut_76 ?_
            refine td_icmp_ne (tgt := 89) rfl dX1_workOut_77 ?_ ?_
            · refine ts_aload_n (i := 0) rfl rfl dX1_workOut_80 ?_
              refine td_getR (q := td_r g_c v0 2) tl_X1_18 rfl hv0.1 hv0.2.2.2.1.1 dX1_workOut_81 ?_
              refine ts_iload_n (i := 2) rfl rfl dX1_workOut_84 ?_
              refine ts_iconst rfl dX1_workOut_85 ?_
              refine ts_isub dX1_workOut_86 ?_
              refine td_guard (fun h9 => ?_)
              refine td_ialdK hv0.2.2.2.1.2.1 (hv0.2.2.2.1.2.2 _) h9 dX1_workOut_87 ?_
              exact td_iret rfl dX1_workOut_88
            · refine ts_iload rfl dX1_workOut_89 ?_
              refine ts_bipush rfl dX1_workOut_91 ?_
              refine td_icmp_ne (tgt := 128) rfl dX1_workOut_93 ?_ ?_
              · refine tq_iinc [tv_R v0, tv_R 20, tv_I (tv_w (v2 + (-1))), tv_I v3, tv_I (D (td_r g_c v0 0) (Int.toNat v3))] rfl rfl rfl dX1_workOut_96 ?_
                refine ts_aload_n (i := 0) rfl rfl dX1_workOut_99 ?_
                refine td_getR (q := td_r g_c v0 2) tl_X1_18 rfl hv0.1 hv0.2.2.2.1.1 dX1_workOut_100 ?_
                refine ts_iload_n (i := 2) rfl rfl dX1_workOut_103 ?_
                refine td_guard (fun h10 => ?_)
                refine td_ialdK hv0.2.2.2.1.2.1 (hv0.2.2.2.1.2.2 _) h10 dX1_workOut_104 ?_
                refine td_if_ne (tgt := 123) rfl dX1_workOut_105 ?_ ?_
                · refine ts_iload_n (i := 3) rfl rfl dX1_workOut_108 ?_
                  refine ts_aload_n (i := 0) rfl rfl dX1_workOut_109 ?_
                  refine td_getR (q := td_r g_c v0 1) tl_X1_15 rfl hv0.1 hv0.2.2.1.1 dX1_workOut_110 ?_
                  refine ts_iload_n (i := 3) rfl rfl dX1_workOut_113 ?_
                  refine td_ialdK hv0.2.2.1.2.1 (hv0.2.2.1.2.2 _) h8 dX1_workOut_114 ?_
                  refine ts_iconst rfl dX1_workOut_115 ?_
                  refine ts_isub dX1_workOut_116 ?_
                  refine ts_mmax rfl rfl tl_X1_25 dX1_workOut_117 ?_
                  refine ts_goto (tgt := 124) rfl dX1_workOut_120 ?_
                  refine tq_istore_n [tv_R v0, tv_R 20, tv_I (tv_w (v2 + (-1))), tv_I (tv_max v3 (tv_w ((D (td_r g_c v0 1) (Int.toNat v3)) - 1))), tv_I (D (td_r g_c v0 0) (Int.toNat v3))] rfl (Nat.le_of_ble_eq_true rfl) rfl rfl dX1_workOut_124 ?_
                  refine ts_goto (tgt := 225) rfl dX1_workOut_125 ?_
                  refine tv_weak (ls' := [tv_R v0, tv_R 20, tv_I (tv_w (v2 + (-1))), tv_I (tv_max v3 (tv_w ((D (td_r g_c v0 1) (Int.toNat v3)) - 1))), tv_U]) ⟨Or.inr rfl, Or.inr rfl, Or.inr rfl, Or.inr rfl, Or.inl rfl, trivial⟩ ?_
                  exact S_X1_workOut_225 hE d (fun v0 v2 v3 D => F_X1_workOut_4 n v0 v2 v3 D) (fun v0 v2 v3 D hv0 => ih v0 v2 v3 D hv0) v0 (tv_w (v2 + (-1))) (tv_max v3 (tv_w ((D (td_r g_c v0 1) (Int.toNat v3)) - 1))) hv0 D
                · refine ts_iload_n (i := 3) rfl rfl dX1_workOut_123 ?_
                  refine tq_istore_n [tv_R v0, tv_R 20, tv_I (tv_w (v2 + (-1))), tv_I v3, tv_I (D (td_r g_c v0 0) (Int.toNat v3))] rfl (Nat.le_of_ble_eq_true rfl) rfl rfl dX1_workOut_124 ?_
                  refine ts_goto (tgt := 225) rfl dX1_workOut_125 ?_
                  refine tv_weak (ls' := [tv_R v0, tv_R 20, tv_I (tv_w (v2 + (-1))), tv_I v3, tv_U]) ⟨Or.inr rfl, Or.inr rfl, Or.inr rfl, Or.inr rfl, Or.inl rfl, trivial⟩ ?_
                  exact S_X1_workOut_225 hE d (fun v0 v2 v3 D => F_X1_workOut_4 n v0 v2 v3 D) (fun v0 v2 v3 D hv0 => ih v0 v2 v3 D hv0) v0 (tv_w (v2 + (-1))) v3 hv0 D
              · refine ts_iload rfl dX1_workOut_128 ?_
                refine ts_iconst rfl dX1_workOut_130 ?_
                refine td_icmp_ne (tgt := 154) rfl dX1_workOut_131 ?_ ?_
                · refine ts_aload_n (i := 0) rfl rfl dX1_workOut_134 ?_
                  refine td_getR (q := td_r g_c v0 2) tl_X1_18 rfl hv0.1 hv0.2.2.2.1.1 dX1_workOut_135 ?_
                  refine ts_iload_n (i := 2) rfl rfl dX1_workOut_138 ?_
                  refine ts_iconst rfl dX1_workOut_139 ?_
                  refine ts_isub dX1_workOut_140 ?_
                  refine ts_aload_n (i := 0) rfl rfl dX1_workOut_141 ?_
                  refine td_getR (q := td_r g_c v0 2) tl_X1_18 rfl hv0.1 hv0.2.2.2.1.1 dX1_workOut_142 ?_
                  refine ts_iload_n (i := 2) rfl rfl dX1_workOut_145 ?_
                  refine ts_iconst rfl dX1_workOut_146 ?_
                  refine ts_isub dX1_workOut_147 ?_
                  refine td_guard (fun h11 => ?_)
                  refine td_ialdK hv0.2.2.2.1.2.1 (hv0.2.2.2.1.2.2 _) h11 dX1_workOut_148 ?_
                  refine ts_ineg dX1_workOut_149 ?_
                  refine td_iastK hv0.2.2.2.1.2.1 (hv0.2.2.2.1.2.2 _) h11 dX1_workOut_150 ?_
                  refine td_let (fun D12 => ?_)
                  refine ts_goto (tgt := 225) rfl dX1_workOut_151 ?_
                  refine tv_weak (ls' := [tv_R v0, tv_R 20, tv_I v2, tv_I v3, tv_U]) ⟨Or.inr rfl, Or.inr rfl, Or.inr rfl, Or.inr rfl, Or.inl rfl, trivial⟩ ?_
                  exact S_X1_workOut_225 hE d (fun v0 v2 v3 D => F_X1_workOut_4 n v0 v2 v3 D) (fun v0 v2 v3 D hv0 => ih v0 v2 v3 D hv0) v0 v2 v3 hv0 D12
                · refine ts_iload rfl dX1_workOut_154 ?_
                  refine ts_iconst rfl dX1_workOut_156 ?_
                  refine td_icmp_ne (tgt := 190) rfl dX1_workOut_157 ?_ ?_
                  · refine ts_aload_n (i := 0) rfl rfl dX1_workOut_160 ?_
                    refine td_getR (q := td_r g_c v0 2) tl_X1_18 rfl hv0.1 hv0.2.2.2.1.1 dX1_workOut_161 ?_
                    refine ts_iload_n (i := 2) rfl rfl dX1_workOut_164 ?_
                    refine ts_iconst rfl dX1_workOut_165 ?_
                    refine ts_isub dX1_workOut_166 ?_
                    refine ts_aload_n (i := 0) rfl rfl dX1_workOut_167 ?_
                    refine td_getR (q := td_r g_c v0 2) tl_X1_18 rfl hv0.1 hv0.2.2.2.1.1 dX1_workOut_168 ?_
                    refine ts_iload_n (i := 2) rfl rfl dX1_workOut_171 ?_
                    refine ts_iconst rfl dX1_workOut_172 ?_
                    refine ts_isub dX1_workOut_173 ?_
                    refine td_guard (fun h13 => ?_)
                    refine td_ialdK hv0.2.2.2.1.2.1 (hv0.2.2.2.1.2.2 _) h13 dX1_workOut_174 ?_
                    refine td_if_ne (tgt := 182) rfl dX1_workOut_175 ?_ ?_
                    · refine ts_iconst rfl dX1_workOut_178 ?_
                      refine ts_goto (tgt := 183) rfl dX1_workOut_179 ?_
                      refine tq_callS (y2 := mX1_truth) [tv_I 1] [tv_I (tv_w (v2 - 1)), tv_R (td_r g_c v0 2)] (st' := fun r14 => [tv_I r14, tv_I (tv_w (v2 - 1)), tv_R (td_r g_c v0 2)]) tw_X1_truth tx_X1_truth tl_X1_31 rfl rfl rfl rfl (fun _ => rfl) dX1_workOut_183 (S_X1_truth l hE _ 1 D) (fun r14 D15 => ?_)
                      refine td_iastK hv0.2.2.2.1.2.1 (hv0.2.2.2.1.2.2 _) h13 dX1_workOut_186 ?_
                      refine td_let (fun D16 => ?_)
                      refine ts_goto (tgt := 225) rfl dX1_workOut_187 ?_
                      refine tv_weak (ls' := [tv_R v0, tv_R 20, tv_I v2, tv_I v3, tv_U]) ⟨Or.inr rfl, Or.inr rfl, Or.inr rfl, Or.inr rfl, Or.inl rfl, trivial⟩ ?_
                      exact S_X1_workOut_225 hE d (fun v0 v2 v3 D => F_X1_workOut_4 n v0 v2 v3 D) (fun v0 v2 v3 D hv0 => ih v0 v2 v3 D hv0) v0 v2 v3 hv0 D16
                    · refine ts_iconst rfl dX1_workOut_182 ?_
                      refine tq_callS (y2 := mX1_truth) [tv_I 0] [tv_I (tv_w (v2 - 1)), tv_R (td_r g_c v0 2)] (st' := fun r17 => [tv_I r17, tv_I (tv_w (v2 - 1)), tv_R (td_r g_c v0 2)]) tw_X1_truth tx_X1_truth tl_X1_31 rfl rfl rfl rfl (fun _ => rfl) dX1_workOut_183 (S_X1_truth l hE _ 0 D) (fun r17 D18 => ?_)
                      refine td_iastK hv0.2.2.2.1.2.1 (hv0.2.2.2.1.2.2 _) h13 dX1_workOut_186 ?_
                      refine td_let (fun D19 => ?_)
                      refine ts_goto (tgt := 225) rfl dX1_workOut_187 ?_
                      refine tv_weak (ls' := [tv_R v0, tv_R 20, tv_I v2, tv_I v3, tv_U]) ⟨Or.inr rfl, Or.inr rfl, Or.inr rfl, Or.inr rfl, Or.inl rfl, trivial⟩ ?_
                      exact S_X1_workOut_225 hE d (fun v0 v2 v3 D => F_X1_workOut_4 n v0 v2 v3 D) (fun v0 v2 v3 D hv0 => ih v0 v2 v3 D hv0) v0 v2 v3 hv0 D19
                  · refine ts_iload_n (i := 2) rfl rfl dX1_workOut_190 ?_
                    refine ts_iconst rfl dX1_workOut_191 ?_
                    refine td_icmp_lt (tgt := 225) rfl dX1_workOut_192 ?_ ?_
                    · refine tv_weak (ls' := [tv_R v0, tv_R 20, tv_I v2, tv_I v3, tv_U]) ⟨Or.inr rfl, Or.inr rfl, Or.inr rfl, Or.inr rfl, Or.inl rfl, trivial⟩ ?_
                      exact S_X1_workOut_225 hE d (fun v0 v2 v3 D => F_X1_workOut_4 n v0 v2 v3 D) (fun v0 v2 v3 D hv0 => ih v0 v2 v3 D hv0) v0 v2 v3 hv0 D
                    · refine tq_iinc [tv_R v0, tv_R 20, tv_I (tv_w (v2 + (-1))), tv_I v3, tv_I (D (td_r g_c v0 0) (Int.toNat v3))] rfl rfl rfl dX1_workOut_195 ?_
                      refine ts_aload_n (i := 0) rfl rfl dX1_workOut_198 ?_
                      refine td_getR (q := td_r g_c v0 2) tl_X1_18 rfl hv0.1 hv0.2.2.2.1.1 dX1_workOut_199 ?_
                      refine ts_iload_n (i := 2) rfl rfl dX1_workOut_202 ?_
                      refine ts_iconst rfl dX1_workOut_203 ?_
                      refine ts_isub dX1_workOut_204 ?_
                      refine ts_iload rfl dX1_workOut_205 ?_
                      refine ts_aload_n (i := 0) rfl rfl dX1_workOut_207 ?_
                      refine td_getR (q := td_r g_c v0 2) tl_X1_18 rfl hv0.1 hv0.2.2.2.1.1 dX1_workOut_208 ?_
                      refine ts_iload_n (i := 2) rfl rfl dX1_workOut_211 ?_
                      refine ts_iconst rfl dX1_workOut_212 ?_
                      refine ts_isub dX1_workOut_213 ?_
                      refine td_guard (fun h20 => ?_)
                      refine td_ialdK hv0.2.2.2.1.2.1 (hv0.2.2.2.1.2.2 _) h20 dX1_workOut_214 ?_
                      refine ts_aload_n (i := 0) rfl rfl dX1_workOut_215 ?_
                      refine td_getR (q := td_r g_c v0 2) tl_X1_18 rfl hv0.1 hv0.2.2.2.1.1 dX1_workOut_216 ?_
                      refine ts_iload_n (i := 2) rfl rfl dX1_workOut_219 ?_
                      refine td_guard (fun h21 => ?_)
                      refine td_ialdK hv0.2.2.2.1.2.1 (hv0.2.2.2.1.2.2 _) h21 dX1_workOut_220 ?_
                      refine tq_callS (y2 := mX1_joined) [tv_I (D (td_r g_c v0 0) (Int.toNat v3)), tv_I (D (td_r g_c v0 2) (Int.toNat (tv_w ((tv_w (v2 + (-1))) - 1)))), tv_I (D (td_r g_c v0 2) (Int.toNat (tv_w (v2 + (-1)))))] [tv_I (tv_w ((tv_w (v2 + (-1))) - 1)), tv_R (td_r g_c v0 2)] (st' := fun r22 => [tv_I r22, tv_I (tv_w ((tv_w (v2 + (-1))) - 1)), tv_R (td_r g_c v0 2)]) tw_X1_joined tx_X1_joined tl_X1_35 rfl rfl rfl rfl (fun _ => rfl) dX1_workOut_221 (S_X1_joined l hE _ (D (td_r g_c v0 0) (Int.toNat v3)) (D (td_r g_c v0 2) (Int.toNat (tv_w ((tv_w (v2 + (-1))) - 1)))) (D (td_r g_c v0 2) (Int.toNat (tv_w (v2 + (-1))))) D) (fun r22 D23 => ?_)
                      refine td_iastK hv0.2.2.2.1.2.1 (hv0.2.2.2.1.2.2 _) h20 dX1_workOut_224 ?_
                      refine td_let (fun D24 => ?_)
                      refine tv_weak (ls' := [tv_R v0, tv_R 20, tv_I (tv_w (v2 + (-1))), tv_I v3, tv_U]) ⟨Or.inr rfl, Or.inr rfl, Or.inr rfl, Or.inr rfl, Or.inl rfl, trivial⟩ ?_
                      exact S_X1_workOut_225 hE d (fun v0 v2 v3 D => F_X1_workOut_4 n v0 v2 v3 D) (fun v0 v2 v3 D hv0 => ih v0 v2 v3 D hv0) v0 (tv_w (v2 + (-1))) v3 hv0 D24
          · refine ts_iconst rfl dX1_workOut_72 ?_
            exact td_iret rfl dX1_workOut_73
def F_X1_workOut (p0 : Nat) (D : td_D) : Option (Int × td_D) :=
  F_X1_workOut_4 tf_N p0 0 0 D
set_option maxHeartbeats 4000000 in
set_option maxRecDepth 20000 in
theorem S_X1_workOut (l : Launch) {E : tv_E} (hE : tv_hE E) (d : Nat) (p0 : Nat) (hp0 : tv_isCode p0) (D : td_D) : td_msim l E (d + 2) mX1_workOut g_c [tv_R p0, tv_R 20] D (F_X1_workOut p0 D) := by
  refine td_meetL (ls := [tv_R p0, tv_R 20, tv_U, tv_U, tv_U]) rfl (Nat.le_of_ble_eq_true rfl) rfl ?_
  unfold F_X1_workOut
  refine ts_iconst rfl dX1_workOut_0 ?_
  refine tq_istore_n [tv_R p0, tv_R 20, tv_I 0, tv_U, tv_U] rfl (Nat.le_of_ble_eq_true rfl) rfl rfl dX1_workOut_1 ?_
  refine ts_iconst rfl dX1_workOut_2 ?_
  refine tq_istore_n [tv_R p0, tv_R 20, tv_I 0, tv_I 0, tv_U] rfl (Nat.le_of_ble_eq_true rfl) rfl rfl dX1_workOut_3 ?_
  exact S_X1_workOut_4 hE d tf_N p0 0 0 D hp0
def F_X7_copyFrom (p0 : Nat) (p1 : Nat) (D : td_D) : Option (Int × td_D) :=
  if (0 : Int) ≤ 0 ∧ (0 : Int) ≤ 0 ∧ (0 : Int) ≤ 30 ∧ 0 + 30 ≤ ((30 : Nat) : Int) ∧ 0 + 30 ≤ ((30 : Nat) : Int) then
    td_l (td_cpy D (td_r g_c p1 0) (Int.toNat 0) (td_r g_c p0 0) (Int.toNat 0) (Int.toNat 30)) fun D2 =>
    some (0, D2)
  else none
set_option maxHeartbeats 4000000 in
set_option maxRecDepth 20000 in
theorem S_X7_copyFrom (l : Launch) {E : tv_E} (hE : tv_hE E) (d : Nat) (p0 : Nat) (p1 : Nat) (hp0 : tv_isStock p0) (hp1 : tv_isStock p1) (D : td_D) : td_msim l E (d + 1) mX7_copyFrom g_c [tv_R p0, tv_R p1] D (F_X7_copyFrom p0 p1 D) := by
  refine td_meetL (ls := [tv_R p0, tv_R p1]) rfl (Nat.le_of_ble_eq_true rfl) rfl ?_
  unfold F_X7_copyFrom
  refine ts_aload_n (i := 1) rfl rfl dX7_copyFrom_0 ?_
  refine td_getR (q := td_r g_c p1 0) tl_X7_9 rfl hp1.1 hp1.2.1 dX7_copyFrom_1 ?_
  refine ts_iconst rfl dX7_copyFrom_4 ?_
  refine ts_aload_n (i := 0) rfl rfl dX7_copyFrom_5 ?_
  refine td_getR (q := td_r g_c p0 0) tl_X7_9 rfl hp0.1 hp0.2.1 dX7_copyFrom_6 ?_
  refine ts_iconst rfl dX7_copyFrom_9 ?_
  refine ts_bipush rfl dX7_copyFrom_10 ?_
  refine td_cpyi (y := mX7_copyFrom) (st := []) (ls := [tv_R p0, tv_R p1]) hE.1 rfl hp1.2.2.1 hp0.2.2.1 hp1.2.2.2 hp0.2.2.2 tl_X7_23 (tv_st8 rfl) dX7_copyFrom_12 ?_
  refine td_let (fun D2 => ?_)
  exact td_vret rfl dX7_copyFrom_15
def F_X2_take (D : td_D) : Option (Int × td_D) :=
  td_l (td_upd D 37 0 1) fun D1 =>
  td_l (td_upd D1 37 1 (D1 2 0)) fun D2 =>
  if (0 : Int) ≤ 0 ∧ (0 : Int) ≤ 0 ∧ (0 : Int) ≤ D2 37 1 ∧ 0 + (D2 37 1) ≤ ((6 : Nat) : Int) ∧ 0 + (D2 37 1) ≤ ((6 : Nat) : Int) then
    td_l (td_cpy D2 3 (Int.toNat 0) 38 (Int.toNat 0) (Int.toNat (D2 37 1))) fun D4 =>
    td_b (F_X7_copyFrom 39 5 D4) fun _ D6 =>
    if (0 : Int) ≤ 0 ∧ (0 : Int) ≤ 0 ∧ (0 : Int) ≤ 6 ∧ 0 + 6 ≤ ((6 : Nat) : Int) ∧ 0 + 6 ≤ ((6 : Nat) : Int) then
      td_l (td_cpy D6 42 (Int.toNat 0) 41 (Int.toNat 0) (Int.toNat 6)) fun D8 =>
      some (0, D8)
    else none
  else none
set_option maxHeartbeats 4000000 in
set_option maxRecDepth 20000 in
theorem S_X2_take (l : Launch) {E : tv_E} (hE : tv_hE E) (d : Nat) (D : td_D) : td_msim l E (d + 2) mX2_take g_c [tv_R 37, tv_R 2, tv_R 42] D (F_X2_take D) := by
  refine td_meetL (ls := [tv_R 37, tv_R 2, tv_R 42]) rfl (Nat.le_of_ble_eq_true rfl) rfl ?_
  unfold F_X2_take
  refine ts_aload_n (i := 0) rfl rfl dX2_take_0 ?_
  refine ts_iconst rfl dX2_take_1 ?_
  refine td_putZ tf_X2_9 (by intro h; cases h) rfl ga_c_37 rfl (Or.inr rfl) dX2_take_2 ?_
  refine td_let (fun D1 => ?_)
  refine ts_aload_n (i := 0) rfl rfl dX2_take_5 ?_
  refine ts_aload_n (i := 1) rfl rfl dX2_take_6 ?_
  refine td_getI tl_X2_33 rfl ga_c_2 rfl dX2_take_7 ?_
  refine td_putI tf_X2_15 (by intro h; cases h) rfl ga_c_37 rfl dX2_take_10 ?_
  refine td_let (fun D2 => ?_)
  refine ts_aload_n (i := 1) rfl rfl dX2_take_13 ?_
  refine td_getR (q := 3) tl_X2_36 rfl ga_c_2 rfl dX2_take_14 ?_
  refine ts_iconst rfl dX2_take_17 ?_
  refine ts_aload_n (i := 0) rfl rfl dX2_take_18 ?_
  refine td_getR (q := 38) tl_X2_19 rfl ga_c_37 rfl dX2_take_19 ?_
  refine ts_iconst rfl dX2_take_22 ?_
  refine ts_aload_n (i := 0) rfl rfl dX2_take_23 ?_
  refine td_getI tl_X2_15 rfl ga_c_37 rfl dX2_take_24 ?_
  refine td_cpyi (y := mX2_take) (st := []) (ls := [tv_R 37, tv_R 2, tv_R 42]) hE.1 rfl ga_c_3 ga_c_38 gn_c_3 gn_c_38 tl_X2_37 (tv_st8 rfl) dX2_take_27 ?_
  refine td_let (fun D4 => ?_)
  refine ts_aload_n (i := 0) rfl rfl dX2_take_30 ?_
  refine td_getR (q := 39) tl_X2_26 rfl ga_c_37 rfl dX2_take_31 ?_
  refine ts_aload_n (i := 1) rfl rfl dX2_take_34 ?_
  refine td_getR (q := 5) tl_X2_43 rfl ga_c_2 rfl dX2_take_35 ?_
  refine tq_callV (y2 := mX7_copyFrom) [tv_R 5] [] 39 (st' := fun _ => []) tw_X7_copyFrom tx_X7_copyFrom tw_c7 ga_c_39 tl_X2_44 rfl rfl rfl rfl (fun _ => rfl) dX2_take_38 (S_X7_copyFrom l hE _ 39 5 is_stock_39 is_stock_5 D4) (fun r5 D6 => ?_)
  refine ts_aload_n (i := 2) rfl rfl dX2_take_41 ?_
  refine ts_iconst rfl dX2_take_42 ?_
  refine ts_aload_n (i := 0) rfl rfl dX2_take_43 ?_
  refine td_getR (q := 41) tl_X2_30 rfl ga_c_37 rfl dX2_take_44 ?_
  refine ts_iconst rfl dX2_take_47 ?_
  refine ts_bipush rfl dX2_take_48 ?_
  refine td_cpyi (y := mX2_take) (st := []) (ls := [tv_R 37, tv_R 2, tv_R 42]) hE.1 rfl ga_c_42 ga_c_41 gn_c_42 gn_c_41 tl_X2_37 (tv_st8 rfl) dX2_take_50 ?_
  refine td_let (fun D8 => ?_)
  exact td_vret rfl dX2_take_53
def F_X2_layBack (D : td_D) : Option (Int × td_D) :=
  if (0 : Int) ≤ 0 ∧ (0 : Int) ≤ 0 ∧ (0 : Int) ≤ D 37 1 ∧ 0 + (D 37 1) ≤ ((6 : Nat) : Int) ∧ 0 + (D 37 1) ≤ ((6 : Nat) : Int) then
    td_l (td_cpy D 38 (Int.toNat 0) 3 (Int.toNat 0) (Int.toNat (D 37 1))) fun D2 =>
    td_b (F_X7_copyFrom 5 39 D2) fun _ D4 =>
    if (0 : Int) ≤ 0 ∧ (0 : Int) ≤ 0 ∧ (0 : Int) ≤ 6 ∧ 0 + 6 ≤ ((6 : Nat) : Int) ∧ 0 + 6 ≤ ((6 : Nat) : Int) then
      td_l (td_cpy D4 41 (Int.toNat 0) 42 (Int.toNat 0) (Int.toNat 6)) fun D6 =>
      some (0, D6)
    else none
  else none
set_option maxHeartbeats 4000000 in
set_option maxRecDepth 20000 in
theorem S_X2_layBack (l : Launch) {E : tv_E} (hE : tv_hE E) (d : Nat) (D : td_D) : td_msim l E (d + 2) mX2_layBack g_c [tv_R 37, tv_R 2, tv_R 42] D (F_X2_layBack D) := by
  refine td_meetL (ls := [tv_R 37, tv_R 2, tv_R 42]) rfl (Nat.le_of_ble_eq_true rfl) rfl ?_
  unfold F_X2_layBack
  refine ts_aload_n (i := 0) rfl rfl dX2_layBack_0 ?_
  refine td_getR (q := 38) tl_X2_19 rfl ga_c_37 rfl dX2_layBack_1 ?_
  refine ts_iconst rfl dX2_layBack_4 ?_
  refine ts_aload_n (i := 1) rfl rfl dX2_layBack_5 ?_
  refine td_getR (q := 3) tl_X2_36 rfl ga_c_2 rfl dX2_layBack_6 ?_
  refine ts_iconst rfl dX2_layBack_9 ?_
  refine ts_aload_n (i := 0) rfl rfl dX2_layBack_10 ?_
  refine td_getI tl_X2_15 rfl ga_c_37 rfl dX2_layBack_11 ?_
  refine td_cpyi (y := mX2_layBack) (st := []) (ls := [tv_R 37, tv_R 2, tv_R 42]) hE.1 rfl ga_c_38 ga_c_3 gn_c_38 gn_c_3 tl_X2_37 (tv_st8 rfl) dX2_layBack_14 ?_
  refine td_let (fun D2 => ?_)
  refine ts_aload_n (i := 1) rfl rfl dX2_layBack_17 ?_
  refine td_getR (q := 5) tl_X2_43 rfl ga_c_2 rfl dX2_layBack_18 ?_
  refine ts_aload_n (i := 0) rfl rfl dX2_layBack_21 ?_
  refine td_getR (q := 39) tl_X2_26 rfl ga_c_37 rfl dX2_layBack_22 ?_
  refine tq_callV (y2 := mX7_copyFrom) [tv_R 39] [] 5 (st' := fun _ => []) tw_X7_copyFrom tx_X7_copyFrom tw_c7 ga_c_5 tl_X2_44 rfl rfl rfl rfl (fun _ => rfl) dX2_layBack_25 (S_X7_copyFrom l hE _ 5 39 is_stock_5 is_stock_39 D2) (fun r3 D4 => ?_)
  refine ts_aload_n (i := 0) rfl rfl dX2_layBack_28 ?_
  refine td_getR (q := 41) tl_X2_30 rfl ga_c_37 rfl dX2_layBack_29 ?_
  refine ts_iconst rfl dX2_layBack_32 ?_
  refine ts_aload_n (i := 2) rfl rfl dX2_layBack_33 ?_
  refine ts_iconst rfl dX2_layBack_34 ?_
  refine ts_bipush rfl dX2_layBack_35 ?_
  refine td_cpyi (y := mX2_layBack) (st := []) (ls := [tv_R 37, tv_R 2, tv_R 42]) hE.1 rfl ga_c_41 ga_c_42 gn_c_41 gn_c_42 tl_X2_37 (tv_st8 rfl) dX2_layBack_37 ?_
  refine td_let (fun D6 => ?_)
  exact td_vret rfl dX2_layBack_40
def F_X3_addPerson (a1 : Int) (D : td_D) : Option (Int × td_D) :=
  if 0 ≤ D 2 0 ∧ D 2 0 < ((6 : Nat) : Int) then
    td_l (td_upd D 3 (Int.toNat (D 2 0)) a1) fun D2 =>
    td_l (td_upd D2 2 0 (tv_w ((D2 2 0) + 1))) fun D3 =>
    some (tv_w ((D3 2 0) - 1), D3)
  else none
set_option maxHeartbeats 4000000 in
set_option maxRecDepth 20000 in
theorem S_X3_addPerson (l : Launch) {E : tv_E} (hE : tv_hE E) (d : Nat) (a1 : Int) (D : td_D) : td_msim l E (d + 0) mX3_addPerson g_c [tv_R 2, tv_I a1] D (F_X3_addPerson a1 D) := by
  refine td_meetL (ls := [tv_R 2, tv_I a1]) rfl (Nat.le_of_ble_eq_true rfl) rfl ?_
  unfold F_X3_addPerson
  refine ts_aload_n (i := 0) rfl rfl dX3_addPerson_0 ?_
  refine td_getR (q := 3) tl_X3_21 rfl ga_c_2 rfl dX3_addPerson_1 ?_
  refine ts_aload_n (i := 0) rfl rfl dX3_addPerson_4 ?_
  refine td_getI tl_X3_9 rfl ga_c_2 rfl dX3_addPerson_5 ?_
  refine ts_iload_n (i := 1) rfl rfl dX3_addPerson_8 ?_
  refine td_guard (fun h1 => ?_)
  refine td_iastK ga_c_3 (gn_c_3 _) h1 dX3_addPerson_9 ?_
  refine td_let (fun D2 => ?_)
  refine ts_aload_n (i := 0) rfl rfl dX3_addPerson_10 ?_
  refine ts_dupR dX3_addPerson_11 ?_
  refine td_getI tl_X3_9 rfl ga_c_2 rfl dX3_addPerson_12 ?_
  refine ts_iconst rfl dX3_addPerson_15 ?_
  refine ts_iadd dX3_addPerson_16 ?_
  refine td_putI tf_X3_9 (by intro h; cases h) rfl ga_c_2 rfl dX3_addPerson_17 ?_
  refine td_let (fun D3 => ?_)
  refine ts_aload_n (i := 0) rfl rfl dX3_addPerson_20 ?_
  refine td_getI tl_X3_9 rfl ga_c_2 rfl dX3_addPerson_21 ?_
  refine ts_iconst rfl dX3_addPerson_24 ?_
  refine ts_isub dX3_addPerson_25 ?_
  exact td_iret rfl dX3_addPerson_26
def F_X3_addHive (a1 : Int) (D : td_D) : Option (Int × td_D) :=
  if 0 ≤ D 2 1 ∧ D 2 1 < ((5 : Nat) : Int) then
    td_l (td_upd D 4 (Int.toNat (D 2 1)) a1) fun D2 =>
    td_l (td_upd D2 2 1 (tv_w ((D2 2 1) + 1))) fun D3 =>
    some (tv_w ((D3 2 1) - 1), D3)
  else none
set_option maxHeartbeats 4000000 in
set_option maxRecDepth 20000 in
theorem S_X3_addHive (l : Launch) {E : tv_E} (hE : tv_hE E) (d : Nat) (a1 : Int) (D : td_D) : td_msim l E (d + 0) mX3_addHive g_c [tv_R 2, tv_I a1] D (F_X3_addHive a1 D) := by
  refine td_meetL (ls := [tv_R 2, tv_I a1]) rfl (Nat.le_of_ble_eq_true rfl) rfl ?_
  unfold F_X3_addHive
  refine ts_aload_n (i := 0) rfl rfl dX3_addHive_0 ?_
  refine td_getR (q := 4) tl_X3_25 rfl ga_c_2 rfl dX3_addHive_1 ?_
  refine ts_aload_n (i := 0) rfl rfl dX3_addHive_4 ?_
  refine td_getI tl_X3_15 rfl ga_c_2 rfl dX3_addHive_5 ?_
  refine ts_iload_n (i := 1) rfl rfl dX3_addHive_8 ?_
  refine td_guard (fun h1 => ?_)
  refine td_iastK ga_c_4 (gn_c_4 _) h1 dX3_addHive_9 ?_
  refine td_let (fun D2 => ?_)
  refine ts_aload_n (i := 0) rfl rfl dX3_addHive_10 ?_
  refine ts_dupR dX3_addHive_11 ?_
  refine td_getI tl_X3_15 rfl ga_c_2 rfl dX3_addHive_12 ?_
  refine ts_iconst rfl dX3_addHive_15 ?_
  refine ts_iadd dX3_addHive_16 ?_
  refine td_putI tf_X3_15 (by intro h; cases h) rfl ga_c_2 rfl dX3_addHive_17 ?_
  refine td_let (fun D3 => ?_)
  refine ts_aload_n (i := 0) rfl rfl dX3_addHive_20 ?_
  refine td_getI tl_X3_15 rfl ga_c_2 rfl dX3_addHive_21 ?_
  refine ts_iconst rfl dX3_addHive_24 ?_
  refine ts_isub dX3_addHive_25 ?_
  exact td_iret rfl dX3_addHive_26
def F_X3_addDeed (a1 : Int) (a2 : Int) (a3 : Int) (D : td_D) : Option (Int × td_D) :=
  if 0 ≤ D 2 2 ∧ D 2 2 < ((10 : Nat) : Int) then
    td_l (td_upd D 7 (Int.toNat (D 2 2)) a1) fun D2 =>
    if 0 ≤ D2 2 2 ∧ D2 2 2 < ((10 : Nat) : Int) then
      td_l (td_upd D2 8 (Int.toNat (D2 2 2)) a2) fun D4 =>
      if 0 ≤ D4 2 2 ∧ D4 2 2 < ((10 : Nat) : Int) then
        td_l (td_upd D4 9 (Int.toNat (D4 2 2)) a3) fun D6 =>
        td_l (td_upd D6 2 2 (tv_w ((D6 2 2) + 1))) fun D7 =>
        some (tv_w ((D7 2 2) - 1), D7)
      else none
    else none
  else none
set_option maxHeartbeats 4000000 in
set_option maxRecDepth 20000 in
theorem S_X3_addDeed (l : Launch) {E : tv_E} (hE : tv_hE E) (d : Nat) (a1 : Int) (a2 : Int) (a3 : Int) (D : td_D) : td_msim l E (d + 0) mX3_addDeed g_c [tv_R 2, tv_I a1, tv_I a2, tv_I a3] D (F_X3_addDeed a1 a2 a3 D) := by
  refine td_meetL (ls := [tv_R 2, tv_I a1, tv_I a2, tv_I a3]) rfl (Nat.le_of_ble_eq_true rfl) rfl ?_
  unfold F_X3_addDeed
  refine ts_aload_n (i := 0) rfl rfl dX3_addDeed_0 ?_
  refine td_getR (q := 7) tl_X3_35 rfl ga_c_2 rfl dX3_addDeed_1 ?_
  refine ts_aload_n (i := 0) rfl rfl dX3_addDeed_4 ?_
  refine td_getI tl_X3_18 rfl ga_c_2 rfl dX3_addDeed_5 ?_
  refine ts_iload_n (i := 1) rfl rfl dX3_addDeed_8 ?_
  refine td_guard (fun h1 => ?_)
  refine td_iastK ga_c_7 (gn_c_7 _) h1 dX3_addDeed_9 ?_
  refine td_let (fun D2 => ?_)
  refine ts_aload_n (i := 0) rfl rfl dX3_addDeed_10 ?_
  refine td_getR (q := 8) tl_X3_38 rfl ga_c_2 rfl dX3_addDeed_11 ?_
  refine ts_aload_n (i := 0) rfl rfl dX3_addDeed_14 ?_
  refine td_getI tl_X3_18 rfl ga_c_2 rfl dX3_addDeed_15 ?_
  refine ts_iload_n (i := 2) rfl rfl dX3_addDeed_18 ?_
  refine td_guard (fun h3 => ?_)
  refine td_iastK ga_c_8 (gn_c_8 _) h3 dX3_addDeed_19 ?_
  refine td_let (fun D4 => ?_)
  refine ts_aload_n (i := 0) rfl rfl dX3_addDeed_20 ?_
  refine td_getR (q := 9) tl_X3_41 rfl ga_c_2 rfl dX3_addDeed_21 ?_
  refine ts_aload_n (i := 0) rfl rfl dX3_addDeed_24 ?_
  refine td_getI tl_X3_18 rfl ga_c_2 rfl dX3_addDeed_25 ?_
  refine ts_iload_n (i := 3) rfl rfl dX3_addDeed_28 ?_
  refine td_guard (fun h5 => ?_)
  refine td_iastK ga_c_9 (gn_c_9 _) h5 dX3_addDeed_29 ?_
  refine td_let (fun D6 => ?_)
  refine ts_aload_n (i := 0) rfl rfl dX3_addDeed_30 ?_
  refine ts_dupR dX3_addDeed_31 ?_
  refine td_getI tl_X3_18 rfl ga_c_2 rfl dX3_addDeed_32 ?_
  refine ts_iconst rfl dX3_addDeed_35 ?_
  refine ts_iadd dX3_addDeed_36 ?_
  refine td_putI tf_X3_18 (by intro h; cases h) rfl ga_c_2 rfl dX3_addDeed_37 ?_
  refine td_let (fun D7 => ?_)
  refine ts_aload_n (i := 0) rfl rfl dX3_addDeed_40 ?_
  refine td_getI tl_X3_18 rfl ga_c_2 rfl dX3_addDeed_41 ?_
  refine ts_iconst rfl dX3_addDeed_44 ?_
  refine ts_isub dX3_addDeed_45 ?_
  exact td_iret rfl dX3_addDeed_46
def F_X3_isPerson (a1 : Int) (D : td_D) : Option (Int × td_D) :=
  if a1 < 0 then
    some (0, D)
  else
    if D 2 0 ≤ a1 then
      some (0, D)
    else
      some (1, D)
set_option maxHeartbeats 4000000 in
set_option maxRecDepth 20000 in
theorem S_X3_isPerson (l : Launch) {E : tv_E} (hE : tv_hE E) (d : Nat) (a1 : Int) (D : td_D) : td_msim l E (d + 0) mX3_isPerson g_c [tv_R 2, tv_I a1] D (F_X3_isPerson a1 D) := by
  refine td_meetL (ls := [tv_R 2, tv_I a1]) rfl (Nat.le_of_ble_eq_true rfl) rfl ?_
  unfold F_X3_isPerson
  refine ts_iload_n (i := 1) rfl rfl dX3_isPerson_0 ?_
  refine td_if_lt (tgt := 16) rfl dX3_isPerson_1 ?_ ?_
  · refine ts_iconst rfl dX3_isPerson_16 ?_
    exact td_zretK (Or.inl rfl) rfl dX3_isPerson_17
  · refine ts_iload_n (i := 1) rfl rfl dX3_isPerson_4 ?_
    refine ts_aload_n (i := 0) rfl rfl dX3_isPerson_5 ?_
    refine td_getI tl_X3_9 rfl ga_c_2 rfl dX3_isPerson_6 ?_
    refine td_icmp_ge (tgt := 16) rfl dX3_isPerson_9 ?_ ?_
    · refine ts_iconst rfl dX3_isPerson_16 ?_
      exact td_zretK (Or.inl rfl) rfl dX3_isPerson_17
    · refine ts_iconst rfl dX3_isPerson_12 ?_
      refine ts_goto (tgt := 17) rfl dX3_isPerson_13 ?_
      exact td_zretK (Or.inr rfl) rfl dX3_isPerson_17
def F_X3_isHive (a1 : Int) (D : td_D) : Option (Int × td_D) :=
  if a1 < 0 then
    some (0, D)
  else
    if D 2 1 ≤ a1 then
      some (0, D)
    else
      some (1, D)
set_option maxHeartbeats 4000000 in
set_option maxRecDepth 20000 in
theorem S_X3_isHive (l : Launch) {E : tv_E} (hE : tv_hE E) (d : Nat) (a1 : Int) (D : td_D) : td_msim l E (d + 0) mX3_isHive g_c [tv_R 2, tv_I a1] D (F_X3_isHive a1 D) := by
  refine td_meetL (ls := [tv_R 2, tv_I a1]) rfl (Nat.le_of_ble_eq_true rfl) rfl ?_
  unfold F_X3_isHive
  refine ts_iload_n (i := 1) rfl rfl dX3_isHive_0 ?_
  refine td_if_lt (tgt := 16) rfl dX3_isHive_1 ?_ ?_
  · refine ts_iconst rfl dX3_isHive_16 ?_
    exact td_zretK (Or.inl rfl) rfl dX3_isHive_17
  · refine ts_iload_n (i := 1) rfl rfl dX3_isHive_4 ?_
    refine ts_aload_n (i := 0) rfl rfl dX3_isHive_5 ?_
    refine td_getI tl_X3_15 rfl ga_c_2 rfl dX3_isHive_6 ?_
    refine td_icmp_ge (tgt := 16) rfl dX3_isHive_9 ?_ ?_
    · refine ts_iconst rfl dX3_isHive_16 ?_
      exact td_zretK (Or.inl rfl) rfl dX3_isHive_17
    · refine ts_iconst rfl dX3_isHive_12 ?_
      refine ts_goto (tgt := 17) rfl dX3_isHive_13 ?_
      exact td_zretK (Or.inr rfl) rfl dX3_isHive_17
def F_X3_isDeed (a1 : Int) (D : td_D) : Option (Int × td_D) :=
  if a1 < 0 then
    some (0, D)
  else
    if D 2 2 ≤ a1 then
      some (0, D)
    else
      some (1, D)
set_option maxHeartbeats 4000000 in
set_option maxRecDepth 20000 in
theorem S_X3_isDeed (l : Launch) {E : tv_E} (hE : tv_hE E) (d : Nat) (a1 : Int) (D : td_D) : td_msim l E (d + 0) mX3_isDeed g_c [tv_R 2, tv_I a1] D (F_X3_isDeed a1 D) := by
  refine td_meetL (ls := [tv_R 2, tv_I a1]) rfl (Nat.le_of_ble_eq_true rfl) rfl ?_
  unfold F_X3_isDeed
  refine ts_iload_n (i := 1) rfl rfl dX3_isDeed_0 ?_
  refine td_if_lt (tgt := 16) rfl dX3_isDeed_1 ?_ ?_
  · refine ts_iconst rfl dX3_isDeed_16 ?_
    exact td_zretK (Or.inl rfl) rfl dX3_isDeed_17
  · refine ts_iload_n (i := 1) rfl rfl dX3_isDeed_4 ?_
    refine ts_aload_n (i := 0) rfl rfl dX3_isDeed_5 ?_
    refine td_getI tl_X3_18 rfl ga_c_2 rfl dX3_isDeed_6 ?_
    refine td_icmp_ge (tgt := 16) rfl dX3_isDeed_9 ?_ ?_
    · refine ts_iconst rfl dX3_isDeed_16 ?_
      exact td_zretK (Or.inl rfl) rfl dX3_isDeed_17
    · refine ts_iconst rfl dX3_isDeed_12 ?_
      refine ts_goto (tgt := 17) rfl dX3_isDeed_13 ?_
      exact td_zretK (Or.inr rfl) rfl dX3_isDeed_17
def F_X3_isShare (a1 : Int) (D : td_D) : Option (Int × td_D) :=
  if a1 < 0 then
    some (0, D)
  else
    td_b (F_X3_isHive (tv_div a1 10) D) fun r1 D2 =>
    if r1 = 0 then
      some (0, D2)
    else
      td_b (F_X3_isPerson (tv_rem a1 10) D2) fun r3 D4 =>
      if r3 = 0 then
        some (0, D4)
      else
        some (1, D4)
set_option maxHeartbeats 4000000 in
set_option maxRecDepth 20000 in
theorem S_X3_isShare (l : Launch) {E : tv_E} (hE : tv_hE E) (d : Nat) (a1 : Int) (D : td_D) : td_msim l E (d + 1) mX3_isShare g_c [tv_R 2, tv_I a1] D (F_X3_isShare a1 D) := by
  refine td_meetL (ls := [tv_R 2, tv_I a1]) rfl (Nat.le_of_ble_eq_true rfl) rfl ?_
  unfold F_X3_isShare
  refine ts_iload_n (i := 1) rfl rfl dX3_isShare_0 ?_
  refine td_if_lt (tgt := 30) rfl dX3_isShare_1 ?_ ?_
  · refine ts_iconst rfl dX3_isShare_30 ?_
    exact td_zretK (Or.inl rfl) rfl dX3_isShare_31
  · refine ts_aload_n (i := 0) rfl rfl dX3_isShare_4 ?_
    refine ts_iload_n (i := 1) rfl rfl dX3_isShare_5 ?_
    refine ts_bipush rfl dX3_isShare_6 ?_
    refine td_idivK (by decide) dX3_isShare_8 ?_
    refine tq_callV (y2 := mX3_isHive) [tv_I (tv_div a1 10)] [] 2 (st' := fun r1 => [tv_I r1]) tw_X3_isHive tx_X3_isHive tw_c3 ga_c_2 tl_X3_56 rfl rfl rfl rfl (fun _ => rfl) dX3_isShare_9 (S_X3_isHive l hE _ (tv_div a1 10) D) (fun r1 D2 => ?_)
    refine td_if_eq (tgt := 30) rfl dX3_isShare_12 ?_ ?_
    · refine ts_iconst rfl dX3_isShare_30 ?_
      exact td_zretK (Or.inl rfl) rfl dX3_isShare_31
    · refine ts_aload_n (i := 0) rfl rfl dX3_isShare_15 ?_
      refine ts_iload_n (i := 1) rfl rfl dX3_isShare_16 ?_
      refine ts_bipush rfl dX3_isShare_17 ?_
      refine td_iremK (by decide) dX3_isShare_19 ?_
      refine tq_callV (y2 := mX3_isPerson) [tv_I (tv_rem a1 10)] [] 2 (st' := fun r3 => [tv_I r3]) tw_X3_isPerson tx_X3_isPerson tw_c3 ga_c_2 tl_X3_60 rfl rfl rfl rfl (fun _ => rfl) dX3_isShare_20 (S_X3_isPerson l hE _ (tv_rem a1 10) D2) (fun r3 D4 => ?_)
      refine td_if_eq (tgt := 30) rfl dX3_isShare_23 ?_ ?_
      · refine ts_iconst rfl dX3_isShare_30 ?_
        exact td_zretK (Or.inl rfl) rfl dX3_isShare_31
      · refine ts_iconst rfl dX3_isShare_26 ?_
        refine ts_goto (tgt := 31) rfl dX3_isShare_27 ?_
        exact td_zretK (Or.inr rfl) rfl dX3_isShare_31
def F_X3_mayDo (a1 : Int) (a2 : Int) (D : td_D) : Option (Int × td_D) :=
  if 0 ≤ a1 ∧ a1 < ((10 : Nat) : Int) then
    if a2 < D 7 (Int.toNat a1) then
      some (0, D)
    else
      if D 8 (Int.toNat a1) < a2 then
        some (0, D)
      else
        some (1, D)
  else none
set_option maxHeartbeats 4000000 in
set_option maxRecDepth 20000 in
theorem S_X3_mayDo (l : Launch) {E : tv_E} (hE : tv_hE E) (d : Nat) (a1 : Int) (a2 : Int) (D : td_D) : td_msim l E (d + 0) mX3_mayDo g_c [tv_R 2, tv_I a1, tv_I a2] D (F_X3_mayDo a1 a2 D) := by
  refine td_meetL (ls := [tv_R 2, tv_I a1, tv_I a2]) rfl (Nat.le_of_ble_eq_true rfl) rfl ?_
  unfold F_X3_mayDo
  refine ts_aload_n (i := 0) rfl rfl dX3_mayDo_0 ?_
  refine td_getR (q := 7) tl_X3_35 rfl ga_c_2 rfl dX3_mayDo_1 ?_
  refine ts_iload_n (i := 1) rfl rfl dX3_mayDo_4 ?_
  refine td_guard (fun h1 => ?_)
  refine td_ialdK ga_c_7 (gn_c_7 _) h1 dX3_mayDo_5 ?_
  refine ts_iload_n (i := 2) rfl rfl dX3_mayDo_6 ?_
  refine td_icmp_gt (tgt := 24) rfl dX3_mayDo_7 ?_ ?_
  · refine ts_iconst rfl dX3_mayDo_24 ?_
    exact td_zretK (Or.inl rfl) rfl dX3_mayDo_25
  · refine ts_iload_n (i := 2) rfl rfl dX3_mayDo_10 ?_
    refine ts_aload_n (i := 0) rfl rfl dX3_mayDo_11 ?_
    refine td_getR (q := 8) tl_X3_38 rfl ga_c_2 rfl dX3_mayDo_12 ?_
    refine ts_iload_n (i := 1) rfl rfl dX3_mayDo_15 ?_
    refine td_ialdK ga_c_8 (gn_c_8 _) h1 dX3_mayDo_16 ?_
    refine td_icmp_gt (tgt := 24) rfl dX3_mayDo_17 ?_ ?_
    · refine ts_iconst rfl dX3_mayDo_24 ?_
      exact td_zretK (Or.inl rfl) rfl dX3_mayDo_25
    · refine ts_iconst rfl dX3_mayDo_20 ?_
      refine ts_goto (tgt := 25) rfl dX3_mayDo_21 ?_
      exact td_zretK (Or.inr rfl) rfl dX3_mayDo_25
def F_X3_farOf (a1 : Int) (D : td_D) : Option (Int × td_D) :=
  if a1 ≤ 0 then
    some ((-1), D)
  else
    if 0 < D 2 10 then
      if D 2 10 = 0 then none else
        some (tv_div a1 (D 2 10), D)
    else
      some ((-1), D)
set_option maxHeartbeats 4000000 in
set_option maxRecDepth 20000 in
theorem S_X3_farOf (l : Launch) {E : tv_E} (hE : tv_hE E) (d : Nat) (a1 : Int) (D : td_D) : td_msim l E (d + 0) mX3_farOf g_c [tv_R 2, tv_I a1] D (F_X3_farOf a1 D) := by
  refine td_meetL (ls := [tv_R 2, tv_I a1]) rfl (Nat.le_of_ble_eq_true rfl) rfl ?_
  unfold F_X3_farOf
  refine ts_iload_n (i := 1) rfl rfl dX3_farOf_0 ?_
  refine td_if_le (tgt := 11) rfl dX3_farOf_1 ?_ ?_
  · refine ts_iconst rfl dX3_farOf_11 ?_
    refine ts_goto (tgt := 21) rfl dX3_farOf_12 ?_
    exact td_iret rfl dX3_farOf_21
  · refine ts_aload_n (i := 0) rfl rfl dX3_farOf_4 ?_
    refine td_getI tl_X3_47 rfl ga_c_2 rfl dX3_farOf_5 ?_
    refine td_if_gt (tgt := 15) rfl dX3_farOf_8 ?_ ?_
    · refine ts_iload_n (i := 1) rfl rfl dX3_farOf_15 ?_
      refine ts_aload_n (i := 0) rfl rfl dX3_farOf_16 ?_
      refine td_getI tl_X3_47 rfl ga_c_2 rfl dX3_farOf_17 ?_
      refine td_ite (fun _ => tv_none) (fun h1 => ?_)
      refine td_idivK h1 dX3_farOf_20 ?_
      exact td_iret rfl dX3_farOf_21
    · refine ts_iconst rfl dX3_farOf_11 ?_
      refine ts_goto (tgt := 21) rfl dX3_farOf_12 ?_
      exact td_iret rfl dX3_farOf_21
def F_X11_apart (a0 : Int) (a1 : Int) (D : td_D) : Option (Int × td_D) :=
  some (tv_w ((tv_abs (tv_w ((tv_rem a0 10) - (tv_rem a1 10)))) + (tv_abs (tv_w ((tv_div a0 10) - (tv_div a1 10))))), D)
set_option maxHeartbeats 4000000 in
set_option maxRecDepth 20000 in
theorem S_X11_apart (l : Launch) {E : tv_E} (hE : tv_hE E) (d : Nat) (a0 : Int) (a1 : Int) (D : td_D) : td_msim l E (d + 1) mX11_apart g_c [tv_I a0, tv_I a1] D (F_X11_apart a0 a1 D) := by
  refine td_meetL (ls := [tv_I a0, tv_I a1]) rfl (Nat.le_of_ble_eq_true rfl) rfl ?_
  unfold F_X11_apart
  refine ts_iload_n (i := 0) rfl rfl dX11_apart_0 ?_
  refine ts_bipush rfl dX11_apart_1 ?_
  refine td_iremK (by decide) dX11_apart_3 ?_
  refine ts_iload_n (i := 1) rfl rfl dX11_apart_4 ?_
  refine ts_bipush rfl dX11_apart_5 ?_
  refine td_iremK (by decide) dX11_apart_7 ?_
  refine ts_isub dX11_apart_8 ?_
  refine ts_mabs rfl rfl tl_X11_426 dX11_apart_9 ?_
  refine ts_iload_n (i := 0) rfl rfl dX11_apart_12 ?_
  refine ts_bipush rfl dX11_apart_13 ?_
  refine td_idivK (by decide) dX11_apart_15 ?_
  refine ts_iload_n (i := 1) rfl rfl dX11_apart_16 ?_
  refine ts_bipush rfl dX11_apart_17 ?_
  refine td_idivK (by decide) dX11_apart_19 ?_
  refine ts_isub dX11_apart_20 ?_
  refine ts_mabs rfl rfl tl_X11_426 dX11_apart_21 ?_
  refine ts_iadd dX11_apart_24 ?_
  exact td_iret rfl dX11_apart_25
def F_X7_share (p0 : Nat) (a1 : Int) (a2 : Int) (D : td_D) : Option (Int × td_D) :=
  if 0 ≤ tv_w ((tv_w (a1 * 6)) + a2) ∧ tv_w ((tv_w (a1 * 6)) + a2) < ((30 : Nat) : Int) then
    some (D (td_r g_c p0 0) (Int.toNat (tv_w ((tv_w (a1 * 6)) + a2))), D)
  else none
set_option maxHeartbeats 4000000 in
set_option maxRecDepth 20000 in
theorem S_X7_share (l : Launch) {E : tv_E} (hE : tv_hE E) (d : Nat) (p0 : Nat) (a1 : Int) (a2 : Int) (hp0 : tv_isStock p0) (D : td_D) : td_msim l E (d + 0) mX7_share g_c [tv_R p0, tv_I a1, tv_I a2] D (F_X7_share p0 a1 a2 D) := by
  refine td_meetL (ls := [tv_R p0, tv_I a1, tv_I a2]) rfl (Nat.le_of_ble_eq_true rfl) rfl ?_
  unfold F_X7_share
  refine ts_aload_n (i := 0) rfl rfl dX7_share_0 ?_
  refine td_getR (q := td_r g_c p0 0) tl_X7_9 rfl hp0.1 hp0.2.1 dX7_share_1 ?_
  refine ts_iload_n (i := 1) rfl rfl dX7_share_4 ?_
  refine ts_bipush rfl dX7_share_5 ?_
  refine ts_imul dX7_share_7 ?_
  refine ts_iload_n (i := 2) rfl rfl dX7_share_8 ?_
  refine ts_iadd dX7_share_9 ?_
  refine td_guard (fun h1 => ?_)
  refine td_ialdK hp0.2.2.1 (hp0.2.2.2 _) h1 dX7_share_10 ?_
  exact td_iret rfl dX7_share_11
def F_X7_allIn_4 : Nat → Nat → Int → Int → Int → td_D → Option (Int × td_D)
  | 0, _, _, _, _, _ => none
  | n + 1, v0, v1, v2, v3, D =>
    if 6 ≤ v3 then
      some (v2, D)
    else
      td_b (F_X7_share v0 v1 v3 D) fun r1 D2 =>
      F_X7_allIn_4 n v0 v1 (tv_w (v2 + r1)) (tv_w (v3 + 1)) D2
set_option maxHeartbeats 4000000 in
set_option maxRecDepth 20000 in
theorem S_X7_allIn_4 {l : Launch} {E : tv_E} (hE : tv_hE E) (d : Nat) : ∀ (n : Nat) (v0 : Nat) (v1 : Int) (v2 : Int) (v3 : Int) (D : td_D), tv_isStock v0 → td_sim l E (d + 1) mX7_allIn g_c 4 [tv_R v0, tv_I v1, tv_I v2, tv_I v3] [] D (F_X7_allIn_4 n v0 v1 v2 v3 D) := by
  intro n
  induction n with
  | zero => intros; exact tv_none
  | succ n ih =>
    intro v0 v1 v2 v3 D hv0
    show td_sim _ _ _ _ _ _ _ _ _ (F_X7_allIn_4 (n + 1) v0 v1 v2 v3 D)
    unfold F_X7_allIn_4
    refine ts_iload_n (i := 3) rfl rfl dX7_allIn_4 ?_
    refine ts_bipush rfl dX7_allIn_5 ?_
    refine td_icmp_ge (tgt := 25) rfl dX7_allIn_7 ?_ ?_
    · refine ts_iload_n (i := 2) rfl rfl dX7_allIn_25 ?_
      exact td_iret rfl dX7_allIn_26
    · refine ts_iload_n (i := 2) rfl rfl dX7_allIn_10 ?_
      refine ts_aload_n (i := 0) rfl rfl dX7_allIn_11 ?_
      refine ts_iload_n (i := 1) rfl rfl dX7_allIn_12 ?_
      refine ts_iload_n (i := 3) rfl rfl dX7_allIn_13 ?_
      refine tq_callV (y2 := mX7_share) [tv_I v1, tv_I v3] [tv_I v2] v0 (st' := fun r1 => [tv_I r1, tv_I v2]) tw_X7_share tx_X7_share tw_c7 hv0.1 tl_X7_15 rfl rfl rfl rfl (fun _ => rfl) dX7_allIn_14 (S_X7_share l hE _ v0 v1 v3 hv0 D) (fun r1 D2 => ?_)
      refine ts_iadd dX7_allIn_17 ?_
      refine tq_istore_n [tv_R v0, tv_I v1, tv_I (tv_w (v2 + r1)), tv_I v3] rfl (Nat.le_of_ble_eq_true rfl) rfl rfl dX7_allIn_18 ?_
      refine tq_iinc [tv_R v0, tv_I v1, tv_I (tv_w (v2 + r1)), tv_I (tv_w (v3 + 1))] rfl rfl rfl dX7_allIn_19 ?_
      refine ts_goto (tgt := 4) rfl dX7_allIn_22 ?_
      exact ih v0 v1 (tv_w (v2 + r1)) (tv_w (v3 + 1)) D2 hv0
def F_X7_allIn (p0 : Nat) (a1 : Int) (D : td_D) : Option (Int × td_D) :=
  F_X7_allIn_4 tf_N p0 a1 0 0 D
set_option maxHeartbeats 4000000 in
set_option maxRecDepth 20000 in
theorem S_X7_allIn (l : Launch) {E : tv_E} (hE : tv_hE E) (d : Nat) (p0 : Nat) (a1 : Int) (hp0 : tv_isStock p0) (D : td_D) : td_msim l E (d + 1) mX7_allIn g_c [tv_R p0, tv_I a1] D (F_X7_allIn p0 a1 D) := by
  refine td_meetL (ls := [tv_R p0, tv_I a1, tv_U, tv_U]) rfl (Nat.le_of_ble_eq_true rfl) rfl ?_
  unfold F_X7_allIn
  refine ts_iconst rfl dX7_allIn_0 ?_
  refine tq_istore_n [tv_R p0, tv_I a1, tv_I 0, tv_U] rfl (Nat.le_of_ble_eq_true rfl) rfl rfl dX7_allIn_1 ?_
  refine ts_iconst rfl dX7_allIn_2 ?_
  refine tq_istore_n [tv_R p0, tv_I a1, tv_I 0, tv_I 0] rfl (Nat.le_of_ble_eq_true rfl) rfl rfl dX7_allIn_3 ?_
  exact S_X7_allIn_4 hE d tf_N p0 a1 0 0 D hp0
def F_X3_stingersAt_4 : Nat → Int → Int → Int → td_D → Option (Int × td_D)
  | 0, _, _, _, _ => none
  | n + 1, v1, v2, v3, D =>
    if D 2 1 ≤ v3 then
      some (v2, D)
    else
      if 0 ≤ v3 ∧ v3 < ((5 : Nat) : Int) then
        td_b (F_X11_apart v1 (D 4 (Int.toNat v3)) D) fun r2 D3 =>
        td_b (F_X7_allIn 5 v3 D3) fun r4 D5 =>
        td_b (F_X3_farOf r4 D5) fun r6 D7 =>
        if r6 < r2 then
          F_X3_stingersAt_4 n v1 v2 (tv_w (v3 + 1)) D7
        else
          F_X3_stingersAt_4 n v1 (tv_or v2 (tv_shl 1 v3)) (tv_w (v3 + 1)) D7
      else none
set_option maxHeartbeats 4000000 in
set_option maxRecDepth 20000 in
theorem S_X3_stingersAt_4 {l : Launch} {E : tv_E} (hE : tv_hE E) (d : Nat) : ∀ (n : Nat) (v1 : Int) (v2 : Int) (v3 : Int) (D : td_D), td_sim l E (d + 2) mX3_stingersAt g_c 4 [tv_R 2, tv_I v1, tv_I v2, tv_I v3] [] D (F_X3_stingersAt_4 n v1 v2 v3 D) := by
  intro n
  induction n with
  | zero => intros; exact tv_none
  | succ n ih =>
    intro v1 v2 v3 D
    show td_sim _ _ _ _ _ _ _ _ _ (F_X3_stingersAt_4 (n + 1) v1 v2 v3 D)
    unfold F_X3_stingersAt_4
    refine ts_iload_n (i := 3) rfl rfl dX3_stingersAt_4 ?_
    refine ts_aload_n (i := 0) rfl rfl dX3_stingersAt_5 ?_
    refine td_getI tl_X3_15 rfl ga_c_2 rfl dX3_stingersAt_6 ?_
    refine td_icmp_ge (tgt := 49) rfl dX3_stingersAt_9 ?_ ?_
    · refine ts_iload_n (i := 2) rfl rfl dX3_stingersAt_49 ?_
      exact td_iret rfl dX3_stingersAt_50
    · refine ts_iload_n (i := 1) rfl rfl dX3_stingersAt_12 ?_
      refine ts_aload_n (i := 0) rfl rfl dX3_stingersAt_13 ?_
      refine td_getR (q := 4) tl_X3_25 rfl ga_c_2 rfl dX3_stingersAt_14 ?_
      refine ts_iload_n (i := 3) rfl rfl dX3_stingersAt_17 ?_
      refine td_guard (fun h1 => ?_)
      refine td_ialdK ga_c_4 (gn_c_4 _) h1 dX3_stingersAt_18 ?_
      refine tq_callSN (y2 := mX11_apart) [tv_I v1, tv_I (D 4 (Int.toNat v3))] [] (st' := fun r2 => [tv_I r2]) tw_X11_apart tx_X11_apart tl_X3_65 rfl rfl rfl rfl (fun _ => rfl) dX3_stingersAt_19 (S_X11_apart l hE _ v1 (D 4 (Int.toNat v3)) D) (fun r2 D3 => ?_)
      refine ts_aload_n (i := 0) rfl rfl dX3_stingersAt_22 ?_
      refine ts_aload_n (i := 0) rfl rfl dX3_stingersAt_23 ?_
      refine td_getR (q := 5) tl_X3_31 rfl ga_c_2 rfl dX3_stingersAt_24 ?_
      refine ts_iload_n (i := 3) rfl rfl dX3_stingersAt_27 ?_
      refine tq_callV (y2 := mX7_allIn) [tv_I v3] [tv_R 2, tv_I r2] 5 (st' := fun r4 => [tv_I r4, tv_R 2, tv_I r2]) tw_X7_allIn tx_X7_allIn tw_c7 ga_c_5 tl_X3_69 rfl rfl rfl rfl (fun _ => rfl) dX3_stingersAt_28 (S_X7_allIn l hE _ 5 v3 is_stock_5 D3) (fun r4 D5 => ?_)
      refine tq_callV (y2 := mX3_farOf) [tv_I r4] [tv_I r2] 2 (st' := fun r6 => [tv_I r6, tv_I r2]) tw_X3_farOf tx_X3_farOf tw_c3 ga_c_2 tl_X3_73 rfl rfl rfl rfl (fun _ => rfl) dX3_stingersAt_31 (S_X3_farOf l hE _ r4 D5) (fun r6 D7 => ?_)
      refine td_icmp_gt (tgt := 43) rfl dX3_stingersAt_34 ?_ ?_
      · refine tq_iinc [tv_R 2, tv_I v1, tv_I v2, tv_I (tv_w (v3 + 1))] rfl rfl rfl dX3_stingersAt_43 ?_
        refine ts_goto (tgt := 4) rfl dX3_stingersAt_46 ?_
        exact ih v1 v2 (tv_w (v3 + 1)) D7
      · refine ts_iload_n (i := 2) rfl rfl dX3_stingersAt_37 ?_
        refine ts_iconst rfl dX3_stingersAt_38 ?_
        refine ts_iload_n (i := 3) rfl rfl dX3_stingersAt_39 ?_
        refine ts_ishl dX3_stingersAt_40 ?_
        refine ts_ior dX3_stingersAt_41 ?_
        refine tq_istore_n [tv_R 2, tv_I v1, tv_I (tv_or v2 (tv_shl 1 v3)), tv_I v3] rfl (Nat.le_of_ble_eq_true rfl) rfl rfl dX3_stingersAt_42 ?_
        refine tq_iinc [tv_R 2, tv_I v1, tv_I (tv_or v2 (tv_shl 1 v3)), tv_I (tv_w (v3 + 1))] rfl rfl rfl dX3_stingersAt_43 ?_
        refine ts_goto (tgt := 4) rfl dX3_stingersAt_46 ?_
        exact ih v1 (tv_or v2 (tv_shl 1 v3)) (tv_w (v3 + 1)) D7
def F_X3_stingersAt (a1 : Int) (D : td_D) : Option (Int × td_D) :=
  F_X3_stingersAt_4 tf_N a1 0 0 D
set_option maxHeartbeats 4000000 in
set_option maxRecDepth 20000 in
theorem S_X3_stingersAt (l : Launch) {E : tv_E} (hE : tv_hE E) (d : Nat) (a1 : Int) (D : td_D) : td_msim l E (d + 2) mX3_stingersAt g_c [tv_R 2, tv_I a1] D (F_X3_stingersAt a1 D) := by
  refine td_meetL (ls := [tv_R 2, tv_I a1, tv_U, tv_U]) rfl (Nat.le_of_ble_eq_true rfl) rfl ?_
  unfold F_X3_stingersAt
  refine ts_iconst rfl dX3_stingersAt_0 ?_
  refine tq_istore_n [tv_R 2, tv_I a1, tv_I 0, tv_U] rfl (Nat.le_of_ble_eq_true rfl) rfl rfl dX3_stingersAt_1 ?_
  refine ts_iconst rfl dX3_stingersAt_2 ?_
  refine tq_istore_n [tv_R 2, tv_I a1, tv_I 0, tv_I 0] rfl (Nat.le_of_ble_eq_true rfl) rfl rfl dX3_stingersAt_3 ?_
  exact S_X3_stingersAt_4 hE d tf_N a1 0 0 D
def F_X3_leastOn_9 : Nat → Int → Int → Int → td_D → Option (Int × td_D)
  | 0, _, _, _, _ => none
  | n + 1, v1, v2, v3, D =>
    if D 2 1 ≤ v3 then
      some (v2, D)
    else
      if 0 ≤ v1 ∧ v1 < ((6 : Nat) : Int) then
        td_b (F_X7_share 5 v3 v1 D) fun r2 D3 =>
        F_X3_leastOn_9 n v1 (tv_min v2 (tv_w ((D 3 (Int.toNat v1)) - (tv_min (D 3 (Int.toNat v1)) (tv_w (99 - r2)))))) (tv_w (v3 + 1)) D3
      else none
set_option maxHeartbeats 4000000 in
set_option maxRecDepth 20000 in
theorem S_X3_leastOn_9 {l : Launch} {E : tv_E} (hE : tv_hE E) (d : Nat) : ∀ (n : Nat) (v1 : Int) (v2 : Int) (v3 : Int) (D : td_D), td_sim l E (d + 1) mX3_leastOn g_c 9 [tv_R 2, tv_I v1, tv_I v2, tv_I v3] [] D (F_X3_leastOn_9 n v1 v2 v3 D) := by
  intro n
  induction n with
  | zero => intros; exact tv_none
  | succ n ih =>
    intro v1 v2 v3 D
    show td_sim _ _ _ _ _ _ _ _ _ (F_X3_leastOn_9 (n + 1) v1 v2 v3 D)
    unfold F_X3_leastOn_9
    refine ts_iload_n (i := 3) rfl rfl dX3_leastOn_9 ?_
    refine ts_aload_n (i := 0) rfl rfl dX3_leastOn_10 ?_
    refine td_getI tl_X3_15 rfl ga_c_2 rfl dX3_leastOn_11 ?_
    refine td_icmp_ge (tgt := 56) rfl dX3_leastOn_14 ?_ ?_
    · refine ts_iload_n (i := 2) rfl rfl dX3_leastOn_56 ?_
      exact td_iret rfl dX3_leastOn_57
    · refine ts_iload_n (i := 2) rfl rfl dX3_leastOn_17 ?_
      refine ts_aload_n (i := 0) rfl rfl dX3_leastOn_18 ?_
      refine td_getR (q := 3) tl_X3_21 rfl ga_c_2 rfl dX3_leastOn_19 ?_
      refine ts_iload_n (i := 1) rfl rfl dX3_leastOn_22 ?_
      refine td_guard (fun h1 => ?_)
      refine td_ialdK ga_c_3 (gn_c_3 _) h1 dX3_leastOn_23 ?_
      refine ts_aload_n (i := 0) rfl rfl dX3_leastOn_24 ?_
      refine td_getR (q := 3) tl_X3_21 rfl ga_c_2 rfl dX3_leastOn_25 ?_
      refine ts_iload_n (i := 1) rfl rfl dX3_leastOn_28 ?_
      refine td_ialdK ga_c_3 (gn_c_3 _) h1 dX3_leastOn_29 ?_
      refine ts_bipush rfl dX3_leastOn_30 ?_
      refine ts_aload_n (i := 0) rfl rfl dX3_leastOn_32 ?_
      refine td_getR (q := 5) tl_X3_31 rfl ga_c_2 rfl dX3_leastOn_33 ?_
      refine ts_iload_n (i := 3) rfl rfl dX3_leastOn_36 ?_
      refine ts_iload_n (i := 1) rfl rfl dX3_leastOn_37 ?_
      refine tq_callV (y2 := mX7_share) [tv_I v3, tv_I v1] [tv_I 99, tv_I (D 3 (Int.toNat v1)), tv_I (D 3 (Int.toNat v1)), tv_I v2] 5 (st' := fun r2 => [tv_I r2, tv_I 99, tv_I (D 3 (Int.toNat v1)), tv_I (D 3 (Int.toNat v1)), tv_I v2]) tw_X7_share tx_X7_share tw_c7 ga_c_5 tl_X3_76 rfl rfl rfl rfl (fun _ => rfl) dX3_leastOn_38 (S_X7_share l hE _ 5 v3 v1 is_stock_5 D) (fun r2 D3 => ?_)
      refine ts_isub dX3_leastOn_41 ?_
      refine ts_mmin rfl rfl tl_X3_79 dX3_leastOn_42 ?_
      refine ts_isub dX3_leastOn_45 ?_
      refine ts_mmin rfl rfl tl_X3_79 dX3_leastOn_46 ?_
      refine tq_istore_n [tv_R 2, tv_I v1, tv_I (tv_min v2 (tv_w ((D 3 (Int.toNat v1)) - (tv_min (D 3 (Int.toNat v1)) (tv_w (99 - r2)))))), tv_I v3] rfl (Nat.le_of_ble_eq_true rfl) rfl rfl dX3_leastOn_49 ?_
      refine tq_iinc [tv_R 2, tv_I v1, tv_I (tv_min v2 (tv_w ((D 3 (Int.toNat v1)) - (tv_min (D 3 (Int.toNat v1)) (tv_w (99 - r2)))))), tv_I (tv_w (v3 + 1))] rfl rfl rfl dX3_leastOn_50 ?_
      refine ts_goto (tgt := 9) rfl dX3_leastOn_53 ?_
      exact ih v1 (tv_min v2 (tv_w ((D 3 (Int.toNat v1)) - (tv_min (D 3 (Int.toNat v1)) (tv_w (99 - r2)))))) (tv_w (v3 + 1)) D3
def F_X3_leastOn (a1 : Int) (D : td_D) : Option (Int × td_D) :=
  if 0 ≤ a1 ∧ a1 < ((6 : Nat) : Int) then
    F_X3_leastOn_9 tf_N a1 (D 3 (Int.toNat a1)) 0 D
  else none
set_option maxHeartbeats 4000000 in
set_option maxRecDepth 20000 in
theorem S_X3_leastOn (l : Launch) {E : tv_E} (hE : tv_hE E) (d : Nat) (a1 : Int) (D : td_D) : td_msim l E (d + 1) mX3_leastOn g_c [tv_R 2, tv_I a1] D (F_X3_leastOn a1 D) := by
  refine td_meetL (ls := [tv_R 2, tv_I a1, tv_U, tv_U]) rfl (Nat.le_of_ble_eq_true rfl) rfl ?_
  unfold F_X3_leastOn
  refine ts_aload_n (i := 0) rfl rfl dX3_leastOn_0 ?_
  refine td_getR (q := 3) tl_X3_21 rfl ga_c_2 rfl dX3_leastOn_1 ?_
  refine ts_iload_n (i := 1) rfl rfl dX3_leastOn_4 ?_
  refine td_guard (fun h4 => ?_)
  refine td_ialdK ga_c_3 (gn_c_3 _) h4 dX3_leastOn_5 ?_
  refine tq_istore_n [tv_R 2, tv_I a1, tv_I (D 3 (Int.toNat a1)), tv_U] rfl (Nat.le_of_ble_eq_true rfl) rfl rfl dX3_leastOn_6 ?_
  refine ts_iconst rfl dX3_leastOn_7 ?_
  refine tq_istore_n [tv_R 2, tv_I a1, tv_I (D 3 (Int.toNat a1)), tv_I 0] rfl (Nat.le_of_ble_eq_true rfl) rfl rfl dX3_leastOn_8 ?_
  exact S_X3_leastOn_9 hE d tf_N a1 (D 3 (Int.toNat a1)) 0 D
def F_X3_mostOn_9 : Nat → Int → Int → Int → td_D → Option (Int × td_D)
  | 0, _, _, _, _ => none
  | n + 1, v1, v2, v3, D =>
    if D 2 1 ≤ v3 then
      some (v2, D)
    else
      if 0 ≤ v1 ∧ v1 < ((6 : Nat) : Int) then
        td_b (F_X7_share 5 v3 v1 D) fun r2 D3 =>
        F_X3_mostOn_9 n v1 (tv_max v2 (tv_min 99 (tv_w ((D 3 (Int.toNat v1)) + r2)))) (tv_w (v3 + 1)) D3
      else none
set_option maxHeartbeats 4000000 in
set_option maxRecDepth 20000 in
theorem S_X3_mostOn_9 {l : Launch} {E : tv_E} (hE : tv_hE E) (d : Nat) : ∀ (n : Nat) (v1 : Int) (v2 : Int) (v3 : Int) (D : td_D), td_sim l E (d + 1) mX3_mostOn g_c 9 [tv_R 2, tv_I v1, tv_I v2, tv_I v3] [] D (F_X3_mostOn_9 n v1 v2 v3 D) := by
  intro n
  induction n with
  | zero => intros; exact tv_none
  | succ n ih =>
    intro v1 v2 v3 D
    show td_sim _ _ _ _ _ _ _ _ _ (F_X3_mostOn_9 (n + 1) v1 v2 v3 D)
    unfold F_X3_mostOn_9
    refine ts_iload_n (i := 3) rfl rfl dX3_mostOn_9 ?_
    refine ts_aload_n (i := 0) rfl rfl dX3_mostOn_10 ?_
    refine td_getI tl_X3_15 rfl ga_c_2 rfl dX3_mostOn_11 ?_
    refine td_icmp_ge (tgt := 49) rfl dX3_mostOn_14 ?_ ?_
    · refine ts_iload_n (i := 2) rfl rfl dX3_mostOn_49 ?_
      exact td_iret rfl dX3_mostOn_50
    · refine ts_iload_n (i := 2) rfl rfl dX3_mostOn_17 ?_
      refine ts_bipush rfl dX3_mostOn_18 ?_
      refine ts_aload_n (i := 0) rfl rfl dX3_mostOn_20 ?_
      refine td_getR (q := 3) tl_X3_21 rfl ga_c_2 rfl dX3_mostOn_21 ?_
      refine ts_iload_n (i := 1) rfl rfl dX3_mostOn_24 ?_
      refine td_guard (fun h1 => ?_)
      refine td_ialdK ga_c_3 (gn_c_3 _) h1 dX3_mostOn_25 ?_
      refine ts_aload_n (i := 0) rfl rfl dX3_mostOn_26 ?_
      refine td_getR (q := 5) tl_X3_31 rfl ga_c_2 rfl dX3_mostOn_27 ?_
      refine ts_iload_n (i := 3) rfl rfl dX3_mostOn_30 ?_
      refine ts_iload_n (i := 1) rfl rfl dX3_mostOn_31 ?_
      refine tq_callV (y2 := mX7_share) [tv_I v3, tv_I v1] [tv_I (D 3 (Int.toNat v1)), tv_I 99, tv_I v2] 5 (st' := fun r2 => [tv_I r2, tv_I (D 3 (Int.toNat v1)), tv_I 99, tv_I v2]) tw_X7_share tx_X7_share tw_c7 ga_c_5 tl_X3_76 rfl rfl rfl rfl (fun _ => rfl) dX3_mostOn_32 (S_X7_share l hE _ 5 v3 v1 is_stock_5 D) (fun r2 D3 => ?_)
      refine ts_iadd dX3_mostOn_35 ?_
      refine ts_mmin rfl rfl tl_X3_79 dX3_mostOn_36 ?_
      refine ts_mmax rfl rfl tl_X3_84 dX3_mostOn_39 ?_
      refine tq_istore_n [tv_R 2, tv_I v1, tv_I (tv_max v2 (tv_min 99 (tv_w ((D 3 (Int.toNat v1)) + r2)))), tv_I v3] rfl (Nat.le_of_ble_eq_true rfl) rfl rfl dX3_mostOn_42 ?_
      refine tq_iinc [tv_R 2, tv_I v1, tv_I (tv_max v2 (tv_min 99 (tv_w ((D 3 (Int.toNat v1)) + r2)))), tv_I (tv_w (v3 + 1))] rfl rfl rfl dX3_mostOn_43 ?_
      refine ts_goto (tgt := 9) rfl dX3_mostOn_46 ?_
      exact ih v1 (tv_max v2 (tv_min 99 (tv_w ((D 3 (Int.toNat v1)) + r2)))) (tv_w (v3 + 1)) D3
def F_X3_mostOn (a1 : Int) (D : td_D) : Option (Int × td_D) :=
  if 0 ≤ a1 ∧ a1 < ((6 : Nat) : Int) then
    F_X3_mostOn_9 tf_N a1 (D 3 (Int.toNat a1)) 0 D
  else none
set_option maxHeartbeats 4000000 in
set_option maxRecDepth 20000 in
theorem S_X3_mostOn (l : Launch) {E : tv_E} (hE : tv_hE E) (d : Nat) (a1 : Int) (D : td_D) : td_msim l E (d + 1) mX3_mostOn g_c [tv_R 2, tv_I a1] D (F_X3_mostOn a1 D) := by
  refine td_meetL (ls := [tv_R 2, tv_I a1, tv_U, tv_U]) rfl (Nat.le_of_ble_eq_true rfl) rfl ?_
  unfold F_X3_mostOn
  refine ts_aload_n (i := 0) rfl rfl dX3_mostOn_0 ?_
  refine td_getR (q := 3) tl_X3_21 rfl ga_c_2 rfl dX3_mostOn_1 ?_
  refine ts_iload_n (i := 1) rfl rfl dX3_mostOn_4 ?_
  refine td_guard (fun h4 => ?_)
  refine td_ialdK ga_c_3 (gn_c_3 _) h4 dX3_mostOn_5 ?_
  refine tq_istore_n [tv_R 2, tv_I a1, tv_I (D 3 (Int.toNat a1)), tv_U] rfl (Nat.le_of_ble_eq_true rfl) rfl rfl dX3_mostOn_6 ?_
  refine ts_iconst rfl dX3_mostOn_7 ?_
  refine tq_istore_n [tv_R 2, tv_I a1, tv_I (D 3 (Int.toNat a1)), tv_I 0] rfl (Nat.le_of_ble_eq_true rfl) rfl rfl dX3_mostOn_8 ?_
  exact S_X3_mostOn_9 hE d tf_N a1 (D 3 (Int.toNat a1)) 0 D
def F_X3_setting (a1 : Int) (D : td_D) : Option (Int × td_D) :=
  if a1 = 6 then
    some (D 2 9, D)
  else if a1 = 7 then
    some (D 2 10, D)
  else if a1 = 8 then
    some (D 2 11, D)
  else if a1 = 9 then
    some (D 2 12, D)
  else
    some ((-1), D)
set_option maxHeartbeats 4000000 in
set_option maxRecDepth 20000 in
theorem S_X3_setting (l : Launch) {E : tv_E} (hE : tv_hE E) (d : Nat) (a1 : Int) (D : td_D) : td_msim l E (d + 0) mX3_setting g_c [tv_R 2, tv_I a1] D (F_X3_setting a1 D) := by
  refine td_meetL (ls := [tv_R 2, tv_I a1]) rfl (Nat.le_of_ble_eq_true rfl) rfl ?_
  unfold F_X3_setting
  refine ts_iload_n (i := 1) rfl rfl dX3_setting_0 ?_
  refine td_ite (fun h1 => ?_) (fun h1 => ?_)
  · refine ts_tabIn (i := 0) (tgt := 32) (by omega) (by omega) rfl rfl dX3_setting_1 ?_
    refine ts_aload_n (i := 0) rfl rfl dX3_setting_32 ?_
    refine td_getI tl_X3_44 rfl ga_c_2 rfl dX3_setting_33 ?_
    exact td_iret rfl dX3_setting_36
  refine td_ite (fun h2 => ?_) (fun h2 => ?_)
  · refine ts_tabIn (i := 1) (tgt := 37) (by omega) (by omega) rfl rfl dX3_setting_1 ?_
    refine ts_aload_n (i := 0) rfl rfl dX3_setting_37 ?_
    refine td_getI tl_X3_47 rfl ga_c_2 rfl dX3_setting_38 ?_
    exact td_iret rfl dX3_setting_41
  refine td_ite (fun h3 => ?_) (fun h3 => ?_)
  · refine ts_tabIn (i := 2) (tgt := 42) (by omega) (by omega) rfl rfl dX3_setting_1 ?_
    refine ts_aload_n (i := 0) rfl rfl dX3_setting_42 ?_
    refine td_getI tl_X3_50 rfl ga_c_2 rfl dX3_setting_43 ?_
    exact td_iret rfl dX3_setting_46
  refine td_ite (fun h4 => ?_) (fun h4 => ?_)
  · refine ts_tabIn (i := 3) (tgt := 47) (by omega) (by omega) rfl rfl dX3_setting_1 ?_
    refine ts_aload_n (i := 0) rfl rfl dX3_setting_47 ?_
    refine td_getI tl_X3_53 rfl ga_c_2 rfl dX3_setting_48 ?_
    exact td_iret rfl dX3_setting_51
  refine ts_tabOut (tgt := 52) (by omega) rfl dX3_setting_1 ?_
  refine ts_iconst rfl dX3_setting_52 ?_
  exact td_iret rfl dX3_setting_53
def F_X3_numberOf (a1 : Int) (a2 : Int) (D : td_D) : Option (Int × td_D) :=
  if a2 = 0 then
    td_b (F_X3_isPerson a1 D) fun r2 D3 =>
    if r2 = 0 then
      some ((-1), D3)
    else
      if 0 ≤ a1 ∧ a1 < ((6 : Nat) : Int) then
        some (D3 3 (Int.toNat a1), D3)
      else none
  else if a2 = 1 then
    td_b (F_X3_isShare a1 D) fun r6 D7 =>
    if r6 = 0 then
      some ((-1), D7)
    else
      td_b (F_X7_share 5 (tv_div a1 10) (tv_rem a1 10) D7) fun r8 D9 =>
      some (r8, D9)
  else if a2 = 2 then
    td_b (F_X3_isHive a1 D) fun r11 D12 =>
    if r11 = 0 then
      some ((-1), D12)
    else
      if 0 ≤ a1 ∧ a1 < ((5 : Nat) : Int) then
        some (D12 4 (Int.toNat a1), D12)
      else none
  else if a2 = 3 then
    td_b (F_X3_isDeed a1 D) fun r15 D16 =>
    if r15 = 0 then
      some ((-1), D16)
    else
      if 0 ≤ a1 ∧ a1 < ((10 : Nat) : Int) then
        some (D16 7 (Int.toNat a1), D16)
      else none
  else if a2 = 4 then
    td_b (F_X3_isDeed a1 D) fun r19 D20 =>
    if r19 = 0 then
      some ((-1), D20)
    else
      if 0 ≤ a1 ∧ a1 < ((10 : Nat) : Int) then
        some (D20 8 (Int.toNat a1), D20)
      else none
  else if a2 = 5 then
    td_b (F_X3_isDeed a1 D) fun r23 D24 =>
    if r23 = 0 then
      some ((-1), D24)
    else
      if 0 ≤ a1 ∧ a1 < ((10 : Nat) : Int) then
        some (D24 9 (Int.toNat a1), D24)
      else none
  else
    if a1 = 0 then
      td_b (F_X3_setting a2 D) fun r26 D27 =>
      some (r26, D27)
    else
      some ((-1), D)
set_option maxHeartbeats 4000000 in
set_option maxRecDepth 20000 in
theorem S_X3_numberOf (l : Launch) {E : tv_E} (hE : tv_hE E) (d : Nat) (a1 : Int) (a2 : Int) (D : td_D) : td_msim l E (d + 2) mX3_numberOf g_c [tv_R 2, tv_I a1, tv_I a2] D (F_X3_numberOf a1 a2 D) := by
  refine td_meetL (ls := [tv_R 2, tv_I a1, tv_I a2]) rfl (Nat.le_of_ble_eq_true rfl) rfl ?_
  unfold F_X3_numberOf
  refine ts_iload_n (i := 2) rfl rfl dX3_numberOf_0 ?_
  refine td_ite (fun h1 => ?_) (fun h1 => ?_)
  · refine ts_tabIn (i := 0) (tgt := 40) (by omega) (by omega) rfl rfl dX3_numberOf_1 ?_
    refine ts_aload_n (i := 0) rfl rfl dX3_numberOf_40 ?_
    refine ts_iload_n (i := 1) rfl rfl dX3_numberOf_41 ?_
    refine tq_callV (y2 := mX3_isPerson) [tv_I a1] [] 2 (st' := fun r2 => [tv_I r2]) tw_X3_isPerson tx_X3_isPerson tw_c3 ga_c_2 tl_X3_60 rfl rfl rfl rfl (fun _ => rfl) dX3_numberOf_42 (S_X3_isPerson l hE _ a1 D) (fun r2 D3 => ?_)
    refine td_if_eq (tgt := 57) rfl dX3_numberOf_45 ?_ ?_
    · refine ts_iconst rfl dX3_numberOf_57 ?_
      exact td_iret rfl dX3_numberOf_58
    · refine ts_aload_n (i := 0) rfl rfl dX3_numberOf_48 ?_
      refine td_getR (q := 3) tl_X3_21 rfl ga_c_2 rfl dX3_numberOf_49 ?_
      refine ts_iload_n (i := 1) rfl rfl dX3_numberOf_52 ?_
      refine td_guard (fun h4 => ?_)
      refine td_ialdK ga_c_3 (gn_c_3 _) h4 dX3_numberOf_53 ?_
      refine ts_goto (tgt := 58) rfl dX3_numberOf_54 ?_
      exact td_iret rfl dX3_numberOf_58
  refine td_ite (fun h5 => ?_) (fun h5 => ?_)
  · refine ts_tabIn (i := 1) (tgt := 59) (by omega) (by omega) rfl rfl dX3_numberOf_1 ?_
    refine ts_aload_n (i := 0) rfl rfl dX3_numberOf_59 ?_
    refine ts_iload_n (i := 1) rfl rfl dX3_numberOf_60 ?_
    refine tq_callV (y2 := mX3_isShare) [tv_I a1] [] 2 (st' := fun r6 => [tv_I r6]) tw_X3_isShare tx_X3_isShare tw_c3 ga_c_2 tl_X3_87 rfl rfl rfl rfl (fun _ => rfl) dX3_numberOf_61 (S_X3_isShare l hE _ a1 D) (fun r6 D7 => ?_)
    refine td_if_eq (tgt := 85) rfl dX3_numberOf_64 ?_ ?_
    · refine ts_iconst rfl dX3_numberOf_85 ?_
      exact td_iret rfl dX3_numberOf_86
    · refine ts_aload_n (i := 0) rfl rfl dX3_numberOf_67 ?_
      refine td_getR (q := 5) tl_X3_31 rfl ga_c_2 rfl dX3_numberOf_68 ?_
      refine ts_iload_n (i := 1) rfl rfl dX3_numberOf_71 ?_
      refine ts_bipush rfl dX3_numberOf_72 ?_
      refine td_idivK (by decide) dX3_numberOf_74 ?_
      refine ts_iload_n (i := 1) rfl rfl dX3_numberOf_75 ?_
      refine ts_bipush rfl dX3_numberOf_76 ?_
      refine td_iremK (by decide) dX3_numberOf_78 ?_
      refine tq_callV (y2 := mX7_share) [tv_I (tv_div a1 10), tv_I (tv_rem a1 10)] [] 5 (st' := fun r8 => [tv_I r8]) tw_X7_share tx_X7_share tw_c7 ga_c_5 tl_X3_76 rfl rfl rfl rfl (fun _ => rfl) dX3_numberOf_79 (S_X7_share l hE _ 5 (tv_div a1 10) (tv_rem a1 10) is_stock_5 D7) (fun r8 D9 => ?_)
      refine ts_goto (tgt := 86) rfl dX3_numberOf_82 ?_
      exact td_iret rfl dX3_numberOf_86
  refine td_ite (fun h10 => ?_) (fun h10 => ?_)
  · refine ts_tabIn (i := 2) (tgt := 87) (by omega) (by omega) rfl rfl dX3_numberOf_1 ?_
    refine ts_aload_n (i := 0) rfl rfl dX3_numberOf_87 ?_
    refine ts_iload_n (i := 1) rfl rfl dX3_numberOf_88 ?_
    refine tq_callV (y2 := mX3_isHive) [tv_I a1] [] 2 (st' := fun r11 => [tv_I r11]) tw_X3_isHive tx_X3_isHive tw_c3 ga_c_2 tl_X3_56 rfl rfl rfl rfl (fun _ => rfl) dX3_numberOf_89 (S_X3_isHive l hE _ a1 D) (fun r11 D12 => ?_)
    refine td_if_eq (tgt := 104) rfl dX3_numberOf_92 ?_ ?_
    · refine ts_iconst rfl dX3_numberOf_104 ?_
      exact td_iret rfl dX3_numberOf_105
    · refine ts_aload_n (i := 0) rfl rfl dX3_numberOf_95 ?_
      refine td_getR (q := 4) tl_X3_25 rfl ga_c_2 rfl dX3_numberOf_96 ?_
      refine ts_iload_n (i := 1) rfl rfl dX3_numberOf_99 ?_
      refine td_guard (fun h13 => ?_)
      refine td_ialdK ga_c_4 (gn_c_4 _) h13 dX3_numberOf_100 ?_
      refine ts_goto (tgt := 105) rfl dX3_numberOf_101 ?_
      exact td_iret rfl dX3_numberOf_105
  refine td_ite (fun h14 => ?_) (fun h14 => ?_)
  · refine ts_tabIn (i := 3) (tgt := 106) (by omega) (by omega) rfl rfl dX3_numberOf_1 ?_
    refine ts_aload_n (i := 0) rfl rfl dX3_numberOf_106 ?_
    refine ts_iload_n (i := 1) rfl rfl dX3_numberOf_107 ?_
    refine tq_callV (y2 := mX3_isDeed) [tv_I a1] [] 2 (st' := fun r15 => [tv_I r15]) tw_X3_isDeed tx_X3_isDeed tw_c3 ga_c_2 tl_X3_90 rfl rfl rfl rfl (fun _ => rfl) dX3_numberOf_108 (S_X3_isDeed l hE _ a1 D) (fun r15 D16 => ?_)
    refine td_if_eq (tgt := 123) rfl dX3_numberOf_111 ?_ ?_
    · refine ts_iconst rfl dX3_numberOf_123 ?_
      exact td_iret rfl dX3_numberOf_124
    · refine ts_aload_n (i := 0) rfl rfl dX3_numberOf_114 ?_
      refine td_getR (q := 7) tl_X3_35 rfl ga_c_2 rfl dX3_numberOf_115 ?_
      refine ts_iload_n (i := 1) rfl rfl dX3_numberOf_118 ?_
      refine td_guard (fun h17 => ?_)
      refine td_ialdK ga_c_7 (gn_c_7 _) h17 dX3_numberOf_119 ?_
      refine ts_goto (tgt := 124) rfl dX3_numberOf_120 ?_
      exact td_iret rfl dX3_numberOf_124
  refine td_ite (fun h18 => ?_) (fun h18 => ?_)
  · refine ts_tabIn (i := 4) (tgt := 125) (by omega) (by omega) rfl rfl dX3_numberOf_1 ?_
    refine ts_aload_n (i := 0) rfl rfl dX3_numberOf_125 ?_
    refine ts_iload_n (i := 1) rfl rfl dX3_numberOf_126 ?_
    refine tq_callV (y2 := mX3_isDeed) [tv_I a1] [] 2 (st' := fun r19 => [tv_I r19]) tw_X3_isDeed tx_X3_isDeed tw_c3 ga_c_2 tl_X3_90 rfl rfl rfl rfl (fun _ => rfl) dX3_numberOf_127 (S_X3_isDeed l hE _ a1 D) (fun r19 D20 => ?_)
    refine td_if_eq (tgt := 142) rfl dX3_numberOf_130 ?_ ?_
    · refine ts_iconst rfl dX3_numberOf_142 ?_
      exact td_iret rfl dX3_numberOf_143
    · refine ts_aload_n (i := 0) rfl rfl dX3_numberOf_133 ?_
      refine td_getR (q := 8) tl_X3_38 rfl ga_c_2 rfl dX3_numberOf_134 ?_
      refine ts_iload_n (i := 1) rfl rfl dX3_numberOf_137 ?_
      refine td_guard (fun h21 => ?_)
      refine td_ialdK ga_c_8 (gn_c_8 _) h21 dX3_numberOf_138 ?_
      refine ts_goto (tgt := 143) rfl dX3_numberOf_139 ?_
      exact td_iret rfl dX3_numberOf_143
  refine td_ite (fun h22 => ?_) (fun h22 => ?_)
  · refine ts_tabIn (i := 5) (tgt := 144) (by omega) (by omega) rfl rfl dX3_numberOf_1 ?_
    refine ts_aload_n (i := 0) rfl rfl dX3_numberOf_144 ?_
    refine ts_iload_n (i := 1) rfl rfl dX3_numberOf_145 ?_
    refine tq_callV (y2 := mX3_isDeed) [tv_I a1] [] 2 (st' := fun r23 => [tv_I r23]) tw_X3_isDeed tx_X3_isDeed tw_c3 ga_c_2 tl_X3_90 rfl rfl rfl rfl (fun _ => rfl) dX3_numberOf_146 (S_X3_isDeed l hE _ a1 D) (fun r23 D24 => ?_)
    refine td_if_eq (tgt := 161) rfl dX3_numberOf_149 ?_ ?_
    · refine ts_iconst rfl dX3_numberOf_161 ?_
      exact td_iret rfl dX3_numberOf_162
    · refine ts_aload_n (i := 0) rfl rfl dX3_numberOf_152 ?_
      refine td_getR (q := 9) tl_X3_41 rfl ga_c_2 rfl dX3_numberOf_153 ?_
      refine ts_iload_n (i := 1) rfl rfl dX3_numberOf_156 ?_
      refine td_guard (fun h25 => ?_)
      refine td_ialdK ga_c_9 (gn_c_9 _) h25 dX3_numberOf_157 ?_
      refine ts_goto (tgt := 162) rfl dX3_numberOf_158 ?_
      exact td_iret rfl dX3_numberOf_162
  refine ts_tabOut (tgt := 163) (by omega) rfl dX3_numberOf_1 ?_
  refine ts_iload_n (i := 1) rfl rfl dX3_numberOf_163 ?_
  refine td_if_ne (tgt := 175) rfl dX3_numberOf_164 ?_ ?_
  · refine ts_aload_n (i := 0) rfl rfl dX3_numberOf_167 ?_
    refine ts_iload_n (i := 2) rfl rfl dX3_numberOf_168 ?_
    refine tq_callV (y2 := mX3_setting) [tv_I a2] [] 2 (st' := fun r26 => [tv_I r26]) tw_X3_setting tx_X3_setting tw_c3 ga_c_2 tl_X3_93 rfl rfl rfl rfl (fun _ => rfl) dX3_numberOf_169 (S_X3_setting l hE _ a2 D) (fun r26 D27 => ?_)
    refine ts_goto (tgt := 176) rfl dX3_numberOf_172 ?_
    exact td_iret rfl dX3_numberOf_176
  · refine ts_iconst rfl dX3_numberOf_175 ?_
    exact td_iret rfl dX3_numberOf_176
def F_X11_isTemper (a0 : Int) (D : td_D) : Option (Int × td_D) :=
  if a0 < 0 then
    some (0, D)
  else
    if 99 < a0 then
      some (0, D)
    else
      some (1, D)
set_option maxHeartbeats 4000000 in
set_option maxRecDepth 20000 in
theorem S_X11_isTemper (l : Launch) {E : tv_E} (hE : tv_hE E) (d : Nat) (a0 : Int) (D : td_D) : td_msim l E (d + 0) mX11_isTemper g_c [tv_I a0] D (F_X11_isTemper a0 D) := by
  refine td_meetL (ls := [tv_I a0]) rfl (Nat.le_of_ble_eq_true rfl) rfl ?_
  unfold F_X11_isTemper
  refine ts_iload_n (i := 0) rfl rfl dX11_isTemper_0 ?_
  refine td_if_lt (tgt := 14) rfl dX11_isTemper_1 ?_ ?_
  · refine ts_iconst rfl dX11_isTemper_14 ?_
    exact td_zretK (Or.inl rfl) rfl dX11_isTemper_15
  · refine ts_iload_n (i := 0) rfl rfl dX11_isTemper_4 ?_
    refine ts_bipush rfl dX11_isTemper_5 ?_
    refine td_icmp_gt (tgt := 14) rfl dX11_isTemper_7 ?_ ?_
    · refine ts_iconst rfl dX11_isTemper_14 ?_
      exact td_zretK (Or.inl rfl) rfl dX11_isTemper_15
    · refine ts_iconst rfl dX11_isTemper_10 ?_
      refine ts_goto (tgt := 15) rfl dX11_isTemper_11 ?_
      exact td_zretK (Or.inr rfl) rfl dX11_isTemper_15
def F_X3_fits (a1 : Int) (a2 : Int) (a3 : Int) (D : td_D) : Option (Int × td_D) :=
  if a2 = 3 then
    if a3 < 0 then
      some (0, D)
    else
      td_b (F_X3_isDeed a1 D) fun r2 D3 =>
      if r2 = 0 then
        some (0, D3)
      else
        if 0 ≤ a1 ∧ a1 < ((10 : Nat) : Int) then
          if D3 8 (Int.toNat a1) < a3 then
            some (0, D3)
          else
            some (1, D3)
        else none
  else if a2 = 4 then
    if 99 < a3 then
      some (0, D)
    else
      td_b (F_X3_isDeed a1 D) fun r6 D7 =>
      if r6 = 0 then
        some (0, D7)
      else
        if 0 ≤ a1 ∧ a1 < ((10 : Nat) : Int) then
          if a3 < D7 7 (Int.toNat a1) then
            some (0, D7)
          else
            some (1, D7)
        else none
  else if a2 = 5 then
    td_b (F_X11_isTemper a3 D) fun r10 D11 =>
    if r10 = 0 ∨ r10 = 1 then some (r10, D11) else none
  else if a2 = 6 then
    if a3 < 0 then
      some (0, D)
    else
      if 3 < a3 then
        some (0, D)
      else
        some (1, D)
  else if a2 = 7 then
    if a3 < 1 then
      some (0, D)
    else
      if 20 < a3 then
        some (0, D)
      else
        some (1, D)
  else if a2 = 8 then
    if a3 < 0 then
      some (0, D)
    else
      if 12 < a3 then
        some (0, D)
      else
        some (1, D)
  else
    td_b (F_X11_isTemper a3 D) fun r15 D16 =>
    if r15 = 0 ∨ r15 = 1 then some (r15, D16) else none
set_option maxHeartbeats 4000000 in
set_option maxRecDepth 20000 in
theorem S_X3_fits (l : Launch) {E : tv_E} (hE : tv_hE E) (d : Nat) (a1 : Int) (a2 : Int) (a3 : Int) (D : td_D) : td_msim l E (d + 1) mX3_fits g_c [tv_R 2, tv_I a1, tv_I a2, tv_I a3] D (F_X3_fits a1 a2 a3 D) := by
  refine td_meetL (ls := [tv_R 2, tv_I a1, tv_I a2, tv_I a3]) rfl (Nat.le_of_ble_eq_true rfl) rfl ?_
  unfold F_X3_fits
  refine ts_iload_n (i := 2) rfl rfl dX3_fits_0 ?_
  refine td_ite (fun h1 => ?_) (fun h1 => ?_)
  · refine ts_tabIn (i := 0) (tgt := 40) (by omega) (by omega) rfl rfl dX3_fits_1 ?_
    refine ts_iload_n (i := 3) rfl rfl dX3_fits_40 ?_
    refine td_if_lt (tgt := 66) rfl dX3_fits_41 ?_ ?_
    · refine ts_iconst rfl dX3_fits_66 ?_
      exact td_zretK (Or.inl rfl) rfl dX3_fits_67
    · refine ts_aload_n (i := 0) rfl rfl dX3_fits_44 ?_
      refine ts_iload_n (i := 1) rfl rfl dX3_fits_45 ?_
      refine tq_callV (y2 := mX3_isDeed) [tv_I a1] [] 2 (st' := fun r2 => [tv_I r2]) tw_X3_isDeed tx_X3_isDeed tw_c3 ga_c_2 tl_X3_90 rfl rfl rfl rfl (fun _ => rfl) dX3_fits_46 (S_X3_isDeed l hE _ a1 D) (fun r2 D3 => ?_)
      refine td_if_eq (tgt := 66) rfl dX3_fits_49 ?_ ?_
      · refine ts_iconst rfl dX3_fits_66 ?_
        exact td_zretK (Or.inl rfl) rfl dX3_fits_67
      · refine ts_iload_n (i := 3) rfl rfl dX3_fits_52 ?_
        refine ts_aload_n (i := 0) rfl rfl dX3_fits_53 ?_
        refine td_getR (q := 8) tl_X3_38 rfl ga_c_2 rfl dX3_fits_54 ?_
        refine ts_iload_n (i := 1) rfl rfl dX3_fits_57 ?_
        refine td_guard (fun h4 => ?_)
        refine td_ialdK ga_c_8 (gn_c_8 _) h4 dX3_fits_58 ?_
        refine td_icmp_gt (tgt := 66) rfl dX3_fits_59 ?_ ?_
        · refine ts_iconst rfl dX3_fits_66 ?_
          exact td_zretK (Or.inl rfl) rfl dX3_fits_67
        · refine ts_iconst rfl dX3_fits_62 ?_
          refine ts_goto (tgt := 67) rfl dX3_fits_63 ?_
          exact td_zretK (Or.inr rfl) rfl dX3_fits_67
  refine td_ite (fun h5 => ?_) (fun h5 => ?_)
  · refine ts_tabIn (i := 1) (tgt := 68) (by omega) (by omega) rfl rfl dX3_fits_1 ?_
    refine ts_iload_n (i := 3) rfl rfl dX3_fits_68 ?_
    refine ts_bipush rfl dX3_fits_69 ?_
    refine td_icmp_gt (tgt := 96) rfl dX3_fits_71 ?_ ?_
    · refine ts_iconst rfl dX3_fits_96 ?_
      exact td_zretK (Or.inl rfl) rfl dX3_fits_97
    · refine ts_aload_n (i := 0) rfl rfl dX3_fits_74 ?_
      refine ts_iload_n (i := 1) rfl rfl dX3_fits_75 ?_
      refine tq_callV (y2 := mX3_isDeed) [tv_I a1] [] 2 (st' := fun r6 => [tv_I r6]) tw_X3_isDeed tx_X3_isDeed tw_c3 ga_c_2 tl_X3_90 rfl rfl rfl rfl (fun _ => rfl) dX3_fits_76 (S_X3_isDeed l hE _ a1 D) (fun r6 D7 => ?_)
      refine td_if_eq (tgt := 96) rfl dX3_fits_79 ?_ ?_
      · refine ts_iconst rfl dX3_fits_96 ?_
        exact td_zretK (Or.inl rfl) rfl dX3_fits_97
      · refine ts_iload_n (i := 3) rfl rfl dX3_fits_82 ?_
        refine ts_aload_n (i := 0) rfl rfl dX3_fits_83 ?_
        refine td_getR (q := 7) tl_X3_35 rfl ga_c_2 rfl dX3_fits_84 ?_
        refine ts_iload_n (i := 1) rfl rfl dX3_fits_87 ?_
        refine td_guard (fun h8 => ?_)
        refine td_ialdK ga_c_7 (gn_c_7 _) h8 dX3_fits_88 ?_
        refine td_icmp_lt (tgt := 96) rfl dX3_fits_89 ?_ ?_
        · refine ts_iconst rfl dX3_fits_96 ?_
          exact td_zretK (Or.inl rfl) rfl dX3_fits_97
        · refine ts_iconst rfl dX3_fits_92 ?_
          refine ts_goto (tgt := 97) rfl dX3_fits_93 ?_
          exact td_zretK (Or.inr rfl) rfl dX3_fits_97
  refine td_ite (fun h9 => ?_) (fun h9 => ?_)
  · refine ts_tabIn (i := 2) (tgt := 146) (by omega) (by omega) rfl rfl dX3_fits_1 ?_
    refine ts_iload_n (i := 3) rfl rfl dX3_fits_146 ?_
    refine tq_callSN (y2 := mX11_isTemper) [tv_I a3] [] (st' := fun r10 => [tv_I r10]) tw_X11_isTemper tx_X11_isTemper tl_X3_96 rfl rfl rfl rfl (fun _ => rfl) dX3_fits_147 (S_X11_isTemper l hE _ a3 D) (fun r10 D11 => ?_)
    exact td_zret rfl dX3_fits_150
  refine td_ite (fun h12 => ?_) (fun h12 => ?_)
  · refine ts_tabIn (i := 3) (tgt := 98) (by omega) (by omega) rfl rfl dX3_fits_1 ?_
    refine ts_iload_n (i := 3) rfl rfl dX3_fits_98 ?_
    refine td_if_lt (tgt := 111) rfl dX3_fits_99 ?_ ?_
    · refine ts_iconst rfl dX3_fits_111 ?_
      exact td_zretK (Or.inl rfl) rfl dX3_fits_112
    · refine ts_iload_n (i := 3) rfl rfl dX3_fits_102 ?_
      refine ts_iconst rfl dX3_fits_103 ?_
      refine td_icmp_gt (tgt := 111) rfl dX3_fits_104 ?_ ?_
      · refine ts_iconst rfl dX3_fits_111 ?_
        exact td_zretK (Or.inl rfl) rfl dX3_fits_112
      · refine ts_iconst rfl dX3_fits_107 ?_
        refine ts_goto (tgt := 112) rfl dX3_fits_108 ?_
        exact td_zretK (Or.inr rfl) rfl dX3_fits_112
  refine td_ite (fun h13 => ?_) (fun h13 => ?_)
  · refine ts_tabIn (i := 4) (tgt := 113) (by omega) (by omega) rfl rfl dX3_fits_1 ?_
    refine ts_iload_n (i := 3) rfl rfl dX3_fits_113 ?_
    refine ts_iconst rfl dX3_fits_114 ?_
    refine td_icmp_lt (tgt := 128) rfl dX3_fits_115 ?_ ?_
    · refine ts_iconst rfl dX3_fits_128 ?_
      exact td_zretK (Or.inl rfl) rfl dX3_fits_129
    · refine ts_iload_n (i := 3) rfl rfl dX3_fits_118 ?_
      refine ts_bipush rfl dX3_fits_119 ?_
      refine td_icmp_gt (tgt := 128) rfl dX3_fits_121 ?_ ?_
      · refine ts_iconst rfl dX3_fits_128 ?_
        exact td_zretK (Or.inl rfl) rfl dX3_fits_129
      · refine ts_iconst rfl dX3_fits_124 ?_
        refine ts_goto (tgt := 129) rfl dX3_fits_125 ?_
        exact td_zretK (Or.inr rfl) rfl dX3_fits_129
  refine td_ite (fun h14 => ?_) (fun h14 => ?_)
  · refine ts_tabIn (i := 5) (tgt := 130) (by omega) (by omega) rfl rfl dX3_fits_1 ?_
    refine ts_iload_n (i := 3) rfl rfl dX3_fits_130 ?_
    refine td_if_lt (tgt := 144) rfl dX3_fits_131 ?_ ?_
    · refine ts_iconst rfl dX3_fits_144 ?_
      exact td_zretK (Or.inl rfl) rfl dX3_fits_145
    · refine ts_iload_n (i := 3) rfl rfl dX3_fits_134 ?_
      refine ts_bipush rfl dX3_fits_135 ?_
      refine td_icmp_gt (tgt := 144) rfl dX3_fits_137 ?_ ?_
      · refine ts_iconst rfl dX3_fits_144 ?_
        exact td_zretK (Or.inl rfl) rfl dX3_fits_145
      · refine ts_iconst rfl dX3_fits_140 ?_
        refine ts_goto (tgt := 145) rfl dX3_fits_141 ?_
        exact td_zretK (Or.inr rfl) rfl dX3_fits_145
  refine ts_tabOut (tgt := 146) (by omega) rfl dX3_fits_1 ?_
  refine ts_iload_n (i := 3) rfl rfl dX3_fits_146 ?_
  refine tq_callSN (y2 := mX11_isTemper) [tv_I a3] [] (st' := fun r15 => [tv_I r15]) tw_X11_isTemper tx_X11_isTemper tl_X3_96 rfl rfl rfl rfl (fun _ => rfl) dX3_fits_147 (S_X11_isTemper l hE _ a3 D) (fun r15 D16 => ?_)
  exact td_zret rfl dX3_fits_150
def F_X7_lay (p0 : Nat) (a1 : Int) (a2 : Int) (a3 : Int) (D : td_D) : Option (Int × td_D) :=
  if 0 ≤ tv_w ((tv_w (a1 * 6)) + a2) ∧ tv_w ((tv_w (a1 * 6)) + a2) < ((30 : Nat) : Int) then
    td_l (td_upd D (td_r g_c p0 0) (Int.toNat (tv_w ((tv_w (a1 * 6)) + a2))) a3) fun D2 =>
    some (0, D2)
  else none
set_option maxHeartbeats 4000000 in
set_option maxRecDepth 20000 in
theorem S_X7_lay (l : Launch) {E : tv_E} (hE : tv_hE E) (d : Nat) (p0 : Nat) (a1 : Int) (a2 : Int) (a3 : Int) (hp0 : tv_isStock p0) (D : td_D) : td_msim l E (d + 0) mX7_lay g_c [tv_R p0, tv_I a1, tv_I a2, tv_I a3] D (F_X7_lay p0 a1 a2 a3 D) := by
  refine td_meetL (ls := [tv_R p0, tv_I a1, tv_I a2, tv_I a3]) rfl (Nat.le_of_ble_eq_true rfl) rfl ?_
  unfold F_X7_lay
  refine ts_aload_n (i := 0) rfl rfl dX7_lay_0 ?_
  refine td_getR (q := td_r g_c p0 0) tl_X7_9 rfl hp0.1 hp0.2.1 dX7_lay_1 ?_
  refine ts_iload_n (i := 1) rfl rfl dX7_lay_4 ?_
  refine ts_bipush rfl dX7_lay_5 ?_
  refine ts_imul dX7_lay_7 ?_
  refine ts_iload_n (i := 2) rfl rfl dX7_lay_8 ?_
  refine ts_iadd dX7_lay_9 ?_
  refine ts_iload_n (i := 3) rfl rfl dX7_lay_10 ?_
  refine td_guard (fun h1 => ?_)
  refine td_iastK hp0.2.2.1 (hp0.2.2.2 _) h1 dX7_lay_11 ?_
  refine td_let (fun D2 => ?_)
  exact td_vret rfl dX7_lay_12
def F_X3_changeSetting (a1 : Int) (a2 : Int) (D : td_D) : Option (Int × td_D) :=
  if a1 = 6 then
    td_l (td_upd D 2 9 a2) fun D2 =>
    some (0, D2)
  else if a1 = 7 then
    td_l (td_upd D 2 10 a2) fun D4 =>
    some (0, D4)
  else if a1 = 8 then
    td_l (td_upd D 2 11 a2) fun D6 =>
    some (0, D6)
  else
    td_l (td_upd D 2 12 a2) fun D7 =>
    some (0, D7)
set_option maxHeartbeats 4000000 in
set_option maxRecDepth 20000 in
theorem S_X3_changeSetting (l : Launch) {E : tv_E} (hE : tv_hE E) (d : Nat) (a1 : Int) (a2 : Int) (D : td_D) : td_msim l E (d + 0) mX3_changeSetting g_c [tv_R 2, tv_I a1, tv_I a2] D (F_X3_changeSetting a1 a2 D) := by
  refine td_meetL (ls := [tv_R 2, tv_I a1, tv_I a2]) rfl (Nat.le_of_ble_eq_true rfl) rfl ?_
  unfold F_X3_changeSetting
  refine ts_iload_n (i := 1) rfl rfl dX3_changeSetting_0 ?_
  refine td_ite (fun h1 => ?_) (fun h1 => ?_)
  · refine ts_tabIn (i := 0) (tgt := 28) (by omega) (by omega) rfl rfl dX3_changeSetting_1 ?_
    refine ts_aload_n (i := 0) rfl rfl dX3_changeSetting_28 ?_
    refine ts_iload_n (i := 2) rfl rfl dX3_changeSetting_29 ?_
    refine td_putI tf_X3_44 (by intro h; cases h) rfl ga_c_2 rfl dX3_changeSetting_30 ?_
    refine td_let (fun D2 => ?_)
    refine ts_goto (tgt := 57) rfl dX3_changeSetting_33 ?_
    exact td_vret rfl dX3_changeSetting_57
  refine td_ite (fun h3 => ?_) (fun h3 => ?_)
  · refine ts_tabIn (i := 1) (tgt := 36) (by omega) (by omega) rfl rfl dX3_changeSetting_1 ?_
    refine ts_aload_n (i := 0) rfl rfl dX3_changeSetting_36 ?_
    refine ts_iload_n (i := 2) rfl rfl dX3_changeSetting_37 ?_
    refine td_putI tf_X3_47 (by intro h; cases h) rfl ga_c_2 rfl dX3_changeSetting_38 ?_
    refine td_let (fun D4 => ?_)
    refine ts_goto (tgt := 57) rfl dX3_changeSetting_41 ?_
    exact td_vret rfl dX3_changeSetting_57
  refine td_ite (fun h5 => ?_) (fun h5 => ?_)
  · refine ts_tabIn (i := 2) (tgt := 44) (by omega) (by omega) rfl rfl dX3_changeSetting_1 ?_
    refine ts_aload_n (i := 0) rfl rfl dX3_changeSetting_44 ?_
    refine ts_iload_n (i := 2) rfl rfl dX3_changeSetting_45 ?_
    refine td_putI tf_X3_50 (by intro h; cases h) rfl ga_c_2 rfl dX3_changeSetting_46 ?_
    refine td_let (fun D6 => ?_)
    refine ts_goto (tgt := 57) rfl dX3_changeSetting_49 ?_
    exact td_vret rfl dX3_changeSetting_57
  refine ts_tabOut (tgt := 52) (by omega) rfl dX3_changeSetting_1 ?_
  refine ts_aload_n (i := 0) rfl rfl dX3_changeSetting_52 ?_
  refine ts_iload_n (i := 2) rfl rfl dX3_changeSetting_53 ?_
  refine td_putI tf_X3_53 (by intro h; cases h) rfl ga_c_2 rfl dX3_changeSetting_54 ?_
  refine td_let (fun D7 => ?_)
  exact td_vret rfl dX3_changeSetting_57
def F_X3_change (a1 : Int) (a2 : Int) (a3 : Int) (D : td_D) : Option (Int × td_D) :=
  if a2 = 0 then
    if 0 ≤ a1 ∧ a1 < ((6 : Nat) : Int) then
      td_l (td_upd D 3 (Int.toNat a1) a3) fun D3 =>
      some (0, D3)
    else none
  else if a2 = 1 then
    td_b (F_X7_lay 5 (tv_div a1 10) (tv_rem a1 10) a3 D) fun _ D6 =>
    some (0, D6)
  else if a2 = 2 then
    if 0 ≤ a1 ∧ a1 < ((5 : Nat) : Int) then
      td_l (td_upd D 4 (Int.toNat a1) a3) fun D9 =>
      some (0, D9)
    else none
  else if a2 = 3 then
    if 0 ≤ a1 ∧ a1 < ((10 : Nat) : Int) then
      td_l (td_upd D 7 (Int.toNat a1) a3) fun D12 =>
      some (0, D12)
    else none
  else if a2 = 4 then
    if 0 ≤ a1 ∧ a1 < ((10 : Nat) : Int) then
      td_l (td_upd D 8 (Int.toNat a1) a3) fun D15 =>
      some (0, D15)
    else none
  else if a2 = 5 then
    if 0 ≤ a1 ∧ a1 < ((10 : Nat) : Int) then
      td_l (td_upd D 9 (Int.toNat a1) a3) fun D18 =>
      some (0, D18)
    else none
  else
    td_b (F_X3_changeSetting a2 a3 D) fun _ D20 =>
    some (0, D20)
set_option maxHeartbeats 4000000 in
set_option maxRecDepth 20000 in
theorem S_X3_change (l : Launch) {E : tv_E} (hE : tv_hE E) (d : Nat) (a1 : Int) (a2 : Int) (a3 : Int) (D : td_D) : td_msim l E (d + 1) mX3_change g_c [tv_R 2, tv_I a1, tv_I a2, tv_I a3] D (F_X3_change a1 a2 a3 D) := by
  refine td_meetL (ls := [tv_R 2, tv_I a1, tv_I a2, tv_I a3]) rfl (Nat.le_of_ble_eq_true rfl) rfl ?_
  unfold F_X3_change
  refine ts_iload_n (i := 2) rfl rfl dX3_change_0 ?_
  refine td_ite (fun h1 => ?_) (fun h1 => ?_)
  · refine ts_tabIn (i := 0) (tgt := 40) (by omega) (by omega) rfl rfl dX3_change_1 ?_
    refine ts_aload_n (i := 0) rfl rfl dX3_change_40 ?_
    refine td_getR (q := 3) tl_X3_21 rfl ga_c_2 rfl dX3_change_41 ?_
    refine ts_iload_n (i := 1) rfl rfl dX3_change_44 ?_
    refine ts_iload_n (i := 3) rfl rfl dX3_change_45 ?_
    refine td_guard (fun h2 => ?_)
    refine td_iastK ga_c_3 (gn_c_3 _) h2 dX3_change_46 ?_
    refine td_let (fun D3 => ?_)
    refine ts_goto (tgt := 115) rfl dX3_change_47 ?_
    exact td_vret rfl dX3_change_115
  refine td_ite (fun h4 => ?_) (fun h4 => ?_)
  · refine ts_tabIn (i := 1) (tgt := 50) (by omega) (by omega) rfl rfl dX3_change_1 ?_
    refine ts_aload_n (i := 0) rfl rfl dX3_change_50 ?_
    refine td_getR (q := 5) tl_X3_31 rfl ga_c_2 rfl dX3_change_51 ?_
    refine ts_iload_n (i := 1) rfl rfl dX3_change_54 ?_
    refine ts_bipush rfl dX3_change_55 ?_
    refine td_idivK (by decide) dX3_change_57 ?_
    refine ts_iload_n (i := 1) rfl rfl dX3_change_58 ?_
    refine ts_bipush rfl dX3_change_59 ?_
    refine td_iremK (by decide) dX3_change_61 ?_
    refine ts_iload_n (i := 3) rfl rfl dX3_change_62 ?_
    refine tq_callV (y2 := mX7_lay) [tv_I (tv_div a1 10), tv_I (tv_rem a1 10), tv_I a3] [] 5 (st' := fun _ => []) tw_X7_lay tx_X7_lay tw_c7 ga_c_5 tl_X3_99 rfl rfl rfl rfl (fun _ => rfl) dX3_change_63 (S_X7_lay l hE _ 5 (tv_div a1 10) (tv_rem a1 10) a3 is_stock_5 D) (fun r5 D6 => ?_)
    refine ts_goto (tgt := 115) rfl dX3_change_66 ?_
    exact td_vret rfl dX3_change_115
  refine td_ite (fun h7 => ?_) (fun h7 => ?_)
  · refine ts_tabIn (i := 2) (tgt := 69) (by omega) (by omega) rfl rfl dX3_change_1 ?_
    refine ts_aload_n (i := 0) rfl rfl dX3_change_69 ?_
    refine td_getR (q := 4) tl_X3_25 rfl ga_c_2 rfl dX3_change_70 ?_
    refine ts_iload_n (i := 1) rfl rfl dX3_change_73 ?_
    refine ts_iload_n (i := 3) rfl rfl dX3_change_74 ?_
    refine td_guard (fun h8 => ?_)
    refine td_iastK ga_c_4 (gn_c_4 _) h8 dX3_change_75 ?_
    refine td_let (fun D9 => ?_)
    refine ts_goto (tgt := 115) rfl dX3_change_76 ?_
    exact td_vret rfl dX3_change_115
  refine td_ite (fun h10 => ?_) (fun h10 => ?_)
  · refine ts_tabIn (i := 3) (tgt := 79) (by omega) (by omega) rfl rfl dX3_change_1 ?_
    refine ts_aload_n (i := 0) rfl rfl dX3_change_79 ?_
    refine td_getR (q := 7) tl_X3_35 rfl ga_c_2 rfl dX3_change_80 ?_
    refine ts_iload_n (i := 1) rfl rfl dX3_change_83 ?_
    refine ts_iload_n (i := 3) rfl rfl dX3_change_84 ?_
    refine td_guard (fun h11 => ?_)
    refine td_iastK ga_c_7 (gn_c_7 _) h11 dX3_change_85 ?_
    refine td_let (fun D12 => ?_)
    refine ts_goto (tgt := 115) rfl dX3_change_86 ?_
    exact td_vret rfl dX3_change_115
  refine td_ite (fun h13 => ?_) (fun h13 => ?_)
  · refine ts_tabIn (i := 4) (tgt := 89) (by omega) (by omega) rfl rfl dX3_change_1 ?_
    refine ts_aload_n (i := 0) rfl rfl dX3_change_89 ?_
    refine td_getR (q := 8) tl_X3_38 rfl ga_c_2 rfl dX3_change_90 ?_
    refine ts_iload_n (i := 1) rfl rfl dX3_change_93 ?_
    refine ts_iload_n (i := 3) rfl rfl dX3_change_94 ?_
    refine td_guard (fun h14 => ?_)
    refine td_iastK ga_c_8 (gn_c_8 _) h14 dX3_change_95 ?_
    refine td_let (fun D15 => ?_)
    refine ts_goto (tgt := 115) rfl dX3_change_96 ?_
    exact td_vret rfl dX3_change_115
  refine td_ite (fun h16 => ?_) (fun h16 => ?_)
  · refine ts_tabIn (i := 5) (tgt := 99) (by omega) (by omega) rfl rfl dX3_change_1 ?_
    refine ts_aload_n (i := 0) rfl rfl dX3_change_99 ?_
    refine td_getR (q := 9) tl_X3_41 rfl ga_c_2 rfl dX3_change_100 ?_
    refine ts_iload_n (i := 1) rfl rfl dX3_change_103 ?_
    refine ts_iload_n (i := 3) rfl rfl dX3_change_104 ?_
    refine td_guard (fun h17 => ?_)
    refine td_iastK ga_c_9 (gn_c_9 _) h17 dX3_change_105 ?_
    refine td_let (fun D18 => ?_)
    refine ts_goto (tgt := 115) rfl dX3_change_106 ?_
    exact td_vret rfl dX3_change_115
  refine ts_tabOut (tgt := 109) (by omega) rfl dX3_change_1 ?_
  refine ts_aload_n (i := 0) rfl rfl dX3_change_109 ?_
  refine ts_iload_n (i := 2) rfl rfl dX3_change_110 ?_
  refine ts_iload_n (i := 3) rfl rfl dX3_change_111 ?_
  refine tq_callV (y2 := mX3_changeSetting) [tv_I a2, tv_I a3] [] 2 (st' := fun _ => []) tw_X3_changeSetting tx_X3_changeSetting tw_c3 ga_c_2 tl_X3_103 rfl rfl rfl rfl (fun _ => rfl) dX3_change_112 (S_X3_changeSetting l hE _ a2 a3 D) (fun r19 D20 => ?_)
  exact td_vret rfl dX3_change_115
def F_X4_isFree (a1 : Int) (a2 : Int) (a3 : Int) (D : td_D) : Option (Int × td_D) :=
  if tv_and (tv_shr a2 a3) 1 = 0 then
    if 0 ≤ a3 ∧ a3 < ((6 : Nat) : Int) then
      td_b (F_X3_mayDo a1 (D 3 (Int.toNat a3)) D) fun r2 D3 =>
      if r2 = 0 then
        some (0, D3)
      else
        some (1, D3)
    else none
  else
    some (0, D)
set_option maxHeartbeats 4000000 in
set_option maxRecDepth 20000 in
theorem S_X4_isFree (l : Launch) {E : tv_E} (hE : tv_hE E) (d : Nat) (a1 : Int) (a2 : Int) (a3 : Int) (D : td_D) : td_msim l E (d + 1) mX4_isFree g_c [tv_R 2, tv_I a1, tv_I a2, tv_I a3] D (F_X4_isFree a1 a2 a3 D) := by
  refine td_meetL (ls := [tv_R 2, tv_I a1, tv_I a2, tv_I a3]) rfl (Nat.le_of_ble_eq_true rfl) rfl ?_
  unfold F_X4_isFree
  refine ts_iload_n (i := 2) rfl rfl dX4_isFree_0 ?_
  refine ts_iload_n (i := 3) rfl rfl dX4_isFree_1 ?_
  refine ts_ishr dX4_isFree_2 ?_
  refine ts_iconst rfl dX4_isFree_3 ?_
  refine ts_iand dX4_isFree_4 ?_
  refine td_if_ne (tgt := 26) rfl dX4_isFree_5 ?_ ?_
  · refine ts_aload_n (i := 0) rfl rfl dX4_isFree_8 ?_
    refine ts_iload_n (i := 1) rfl rfl dX4_isFree_9 ?_
    refine ts_aload_n (i := 0) rfl rfl dX4_isFree_10 ?_
    refine td_getR (q := 3) tl_X4_42 rfl ga_c_2 rfl dX4_isFree_11 ?_
    refine ts_iload_n (i := 3) rfl rfl dX4_isFree_14 ?_
    refine td_guard (fun h1 => ?_)
    refine td_ialdK ga_c_3 (gn_c_3 _) h1 dX4_isFree_15 ?_
    refine tq_callV (y2 := mX3_mayDo) [tv_I a1, tv_I (D 3 (Int.toNat a3))] [] 2 (st' := fun r2 => [tv_I r2]) tw_X3_mayDo tx_X3_mayDo tw_c3 ga_c_2 tl_X4_45 rfl rfl rfl rfl (fun _ => rfl) dX4_isFree_16 (S_X3_mayDo l hE _ a1 (D 3 (Int.toNat a3)) D) (fun r2 D3 => ?_)
    refine td_if_eq (tgt := 26) rfl dX4_isFree_19 ?_ ?_
    · refine ts_iconst rfl dX4_isFree_26 ?_
      exact td_zretK (Or.inl rfl) rfl dX4_isFree_27
    · refine ts_iconst rfl dX4_isFree_22 ?_
      refine ts_goto (tgt := 27) rfl dX4_isFree_23 ?_
      exact td_zretK (Or.inr rfl) rfl dX4_isFree_27
  · refine ts_iconst rfl dX4_isFree_26 ?_
    exact td_zretK (Or.inl rfl) rfl dX4_isFree_27
def F_X4_worthBy (a2 : Int) (a3 : Int) (a4 : Int) (D : td_D) : Option (Int × td_D) :=
  if 0 ≤ a2 ∧ a2 < ((10 : Nat) : Int) then
    if 0 ≤ tv_w ((tv_w ((tv_w (a2 + 1)) * 64)) + (tv_or a3 (tv_shl 1 a4))) ∧ tv_w ((tv_w ((tv_w (a2 + 1)) * 64)) + (tv_or a3 (tv_shl 1 a4))) < ((704 : Nat) : Int) then
      some (tv_w ((D 9 (Int.toNat a2)) + (D 28 (Int.toNat (tv_w ((tv_w ((tv_w (a2 + 1)) * 64)) + (tv_or a3 (tv_shl 1 a4))))))), D)
    else none
  else none
set_option maxHeartbeats 4000000 in
set_option maxRecDepth 20000 in
theorem S_X4_worthBy (l : Launch) {E : tv_E} (hE : tv_hE E) (d : Nat) (a2 : Int) (a3 : Int) (a4 : Int) (D : td_D) : td_msim l E (d + 0) mX4_worthBy g_c [tv_R 27, tv_R 2, tv_I a2, tv_I a3, tv_I a4] D (F_X4_worthBy a2 a3 a4 D) := by
  refine td_meetL (ls := [tv_R 27, tv_R 2, tv_I a2, tv_I a3, tv_I a4]) rfl (Nat.le_of_ble_eq_true rfl) rfl ?_
  unfold F_X4_worthBy
  refine ts_aload_n (i := 1) rfl rfl dX4_worthBy_0 ?_
  refine td_getR (q := 9) tl_X4_49 rfl ga_c_2 rfl dX4_worthBy_1 ?_
  refine ts_iload_n (i := 2) rfl rfl dX4_worthBy_4 ?_
  refine td_guard (fun h1 => ?_)
  refine td_ialdK ga_c_9 (gn_c_9 _) h1 dX4_worthBy_5 ?_
  refine ts_aload_n (i := 0) rfl rfl dX4_worthBy_6 ?_
  refine td_getR (q := 28) tl_X4_11 rfl ga_c_27 rfl dX4_worthBy_7 ?_
  refine ts_iload_n (i := 2) rfl rfl dX4_worthBy_10 ?_
  refine ts_iconst rfl dX4_worthBy_11 ?_
  refine ts_iadd dX4_worthBy_12 ?_
  refine ts_bipush rfl dX4_worthBy_13 ?_
  refine ts_imul dX4_worthBy_15 ?_
  refine ts_iload_n (i := 3) rfl rfl dX4_worthBy_16 ?_
  refine ts_iconst rfl dX4_worthBy_17 ?_
  refine ts_iload rfl dX4_worthBy_18 ?_
  refine ts_ishl dX4_worthBy_20 ?_
  refine ts_ior dX4_worthBy_21 ?_
  refine ts_iadd dX4_worthBy_22 ?_
  refine td_guard (fun h2 => ?_)
  refine td_ialdK ga_c_28 (gn_c_28 _) h2 dX4_worthBy_23 ?_
  refine ts_iadd dX4_worthBy_24 ?_
  exact td_iret rfl dX4_worthBy_25
def F_X4_bestFrom_18 : Nat → Int → Int → Int → Int → td_D → Option (Int × td_D)
  | 0, _, _, _, _, _ => none
  | n + 1, v2, v3, v4, v5, D =>
    if D 2 0 ≤ v5 then
      some (v4, D)
    else
      td_b (F_X4_isFree v2 v3 v5 D) fun r1 D2 =>
      if r1 = 0 then
        F_X4_bestFrom_18 n v2 v3 v4 (tv_w (v5 + 1)) D2
      else
        td_b (F_X4_worthBy v2 v3 v5 D2) fun r3 D4 =>
        F_X4_bestFrom_18 n v2 v3 (tv_max v4 r3) (tv_w (v5 + 1)) D4
set_option maxHeartbeats 4000000 in
set_option maxRecDepth 20000 in
theorem S_X4_bestFrom_18 {l : Launch} {E : tv_E} (hE : tv_hE E) (d : Nat) : ∀ (n : Nat) (v2 : Int) (v3 : Int) (v4 : Int) (v5 : Int) (D : td_D), td_sim l E (d + 2) mX4_bestFrom g_c 18 [tv_R 27, tv_R 2, tv_I v2, tv_I v3, tv_I v4, tv_I v5] [] D (F_X4_bestFrom_18 n v2 v3 v4 v5 D) := by
  intro n
  induction n with
  | zero => intros; exact tv_none
  | succ n ih =>
    intro v2 v3 v4 v5 D
    show td_sim _ _ _ _ _ _ _ _ _ (F_X4_bestFrom_18 (n + 1) v2 v3 v4 v5 D)
    unfold F_X4_bestFrom_18
    refine ts_iload rfl dX4_bestFrom_18 ?_
    refine ts_aload_n (i := 1) rfl rfl dX4_bestFrom_20 ?_
    refine td_getI tl_X4_25 rfl ga_c_2 rfl dX4_bestFrom_21 ?_
    refine td_icmp_ge (tgt := 60) rfl dX4_bestFrom_24 ?_ ?_
    · refine ts_iload rfl dX4_bestFrom_60 ?_
      exact td_iret rfl dX4_bestFrom_62
    · refine ts_aload_n (i := 1) rfl rfl dX4_bestFrom_27 ?_
      refine ts_iload_n (i := 2) rfl rfl dX4_bestFrom_28 ?_
      refine ts_iload_n (i := 3) rfl rfl dX4_bestFrom_29 ?_
      refine ts_iload rfl dX4_bestFrom_30 ?_
      refine tq_callS (y2 := mX4_isFree) [tv_R 2, tv_I v2, tv_I v3, tv_I v5] [] (st' := fun r1 => [tv_I r1]) tw_X4_isFree tx_X4_isFree tl_X4_28 rfl rfl rfl rfl (fun _ => rfl) dX4_bestFrom_32 (S_X4_isFree l hE _ v2 v3 v5 D) (fun r1 D2 => ?_)
      refine td_if_eq (tgt := 54) rfl dX4_bestFrom_35 ?_ ?_
      · refine tq_iinc [tv_R 27, tv_R 2, tv_I v2, tv_I v3, tv_I v4, tv_I (tv_w (v5 + 1))] rfl rfl rfl dX4_bestFrom_54 ?_
        refine ts_goto (tgt := 18) rfl dX4_bestFrom_57 ?_
        exact ih v2 v3 v4 (tv_w (v5 + 1)) D2
      · refine ts_iload rfl dX4_bestFrom_38 ?_
        refine ts_aload_n (i := 0) rfl rfl dX4_bestFrom_40 ?_
        refine ts_aload_n (i := 1) rfl rfl dX4_bestFrom_41 ?_
        refine ts_iload_n (i := 2) rfl rfl dX4_bestFrom_42 ?_
        refine ts_iload_n (i := 3) rfl rfl dX4_bestFrom_43 ?_
        refine ts_iload rfl dX4_bestFrom_44 ?_
        refine tq_callV (y2 := mX4_worthBy) [tv_R 2, tv_I v2, tv_I v3, tv_I v5] [tv_I v4] 27 (st' := fun r3 => [tv_I r3, tv_I v4]) tw_X4_worthBy tx_X4_worthBy tw_c4 ga_c_27 tl_X4_32 rfl rfl rfl rfl (fun _ => rfl) dX4_bestFrom_46 (S_X4_worthBy l hE _ v2 v3 v5 D2) (fun r3 D4 => ?_)
        refine ts_mmax rfl rfl tl_X4_36 dX4_bestFrom_49 ?_
        refine tq_istore [tv_R 27, tv_R 2, tv_I v2, tv_I v3, tv_I (tv_max v4 r3), tv_I v5] (Nat.le_of_ble_eq_true rfl) rfl rfl dX4_bestFrom_52 ?_
        refine tq_iinc [tv_R 27, tv_R 2, tv_I v2, tv_I v3, tv_I (tv_max v4 r3), tv_I (tv_w (v5 + 1))] rfl rfl rfl dX4_bestFrom_54 ?_
        refine ts_goto (tgt := 18) rfl dX4_bestFrom_57 ?_
        exact ih v2 v3 (tv_max v4 r3) (tv_w (v5 + 1)) D4
def F_X4_bestFrom (a2 : Int) (a3 : Int) (D : td_D) : Option (Int × td_D) :=
  if 0 ≤ tv_w ((tv_w ((tv_w (a2 + 1)) * 64)) + a3) ∧ tv_w ((tv_w ((tv_w (a2 + 1)) * 64)) + a3) < ((704 : Nat) : Int) then
    F_X4_bestFrom_18 tf_N a2 a3 (D 28 (Int.toNat (tv_w ((tv_w ((tv_w (a2 + 1)) * 64)) + a3)))) 0 D
  else none
set_option maxHeartbeats 4000000 in
set_option maxRecDepth 20000 in
theorem S_X4_bestFrom (l : Launch) {E : tv_E} (hE : tv_hE E) (d : Nat) (a2 : Int) (a3 : Int) (D : td_D) : td_msim l E (d + 2) mX4_bestFrom g_c [tv_R 27, tv_R 2, tv_I a2, tv_I a3] D (F_X4_bestFrom a2 a3 D) := by
  refine td_meetL (ls := [tv_R 27, tv_R 2, tv_I a2, tv_I a3, tv_U, tv_U]) rfl (Nat.le_of_ble_eq_true rfl) rfl ?_
  unfold F_X4_bestFrom
  refine ts_aload_n (i := 0) rfl rfl dX4_bestFrom_0 ?_
  refine td_getR (q := 28) tl_X4_11 rfl ga_c_27 rfl dX4_bestFrom_1 ?_
  refine ts_iload_n (i := 2) rfl rfl dX4_bestFrom_4 ?_
  refine ts_iconst rfl dX4_bestFrom_5 ?_
  refine ts_iadd dX4_bestFrom_6 ?_
  refine ts_bipush rfl dX4_bestFrom_7 ?_
  refine ts_imul dX4_bestFrom_9 ?_
  refine ts_iload_n (i := 3) rfl rfl dX4_bestFrom_10 ?_
  refine ts_iadd dX4_bestFrom_11 ?_
  refine td_guard (fun h5 => ?_)
  refine td_ialdK ga_c_28 (gn_c_28 _) h5 dX4_bestFrom_12 ?_
  refine tq_istore [tv_R 27, tv_R 2, tv_I a2, tv_I a3, tv_I (D 28 (Int.toNat (tv_w ((tv_w ((tv_w (a2 + 1)) * 64)) + a3)))), tv_U] (Nat.le_of_ble_eq_true rfl) rfl rfl dX4_bestFrom_13 ?_
  refine ts_iconst rfl dX4_bestFrom_15 ?_
  refine tq_istore [tv_R 27, tv_R 2, tv_I a2, tv_I a3, tv_I (D 28 (Int.toNat (tv_w ((tv_w ((tv_w (a2 + 1)) * 64)) + a3)))), tv_I 0] (Nat.le_of_ble_eq_true rfl) rfl rfl dX4_bestFrom_16 ?_
  exact S_X4_bestFrom_18 hE d tf_N a2 a3 (D 28 (Int.toNat (tv_w ((tv_w ((tv_w (a2 + 1)) * 64)) + a3)))) 0 D
def F_X4_reckon_42 (k36 : Int → td_D → Option (Int × td_D)) : Nat → Int → Int → td_D → Option (Int × td_D)
  | 0, _, _, _ => none
  | n + 1, v2, v3, D =>
    if 64 ≤ v3 then
      k36 (tv_w (v2 + (-1))) D
    else
      td_b (F_X4_bestFrom v2 v3 D) fun r1 D2 =>
      if 0 ≤ tv_w ((tv_w (v2 * 64)) + v3) ∧ tv_w ((tv_w (v2 * 64)) + v3) < ((704 : Nat) : Int) then
        td_l (td_upd D2 28 (Int.toNat (tv_w ((tv_w (v2 * 64)) + v3))) r1) fun D4 =>
        F_X4_reckon_42 k36 n v2 (tv_w (v3 + 1)) D4
      else none
set_option maxHeartbeats 4000000 in
set_option maxRecDepth 20000 in
theorem S_X4_reckon_42 {l : Launch} {E : tv_E} (hE : tv_hE E) (d : Nat) (k36 : Int → td_D → Option (Int × td_D)) (hk36 : ∀ (v2 : Int) (D : td_D), td_sim l E (d + 3) mX4_reckon g_c 36 [tv_R 27, tv_R 2, tv_I v2, tv_U] [] D (k36 v2 D)) : ∀ (n : Nat) (v2 : Int) (v3 : Int) (D : td_D), td_sim l E (d + 3) mX4_reckon g_c 42 [tv_R 27, tv_R 2, tv_I v2, tv_I v3] [] D (F_X4_reckon_42 k36 n v2 v3 D) := by
  intro n
  induction n with
  | zero => intros; exact tv_none
  | succ n ih =>
    intro v2 v3 D
    show td_sim _ _ _ _ _ _ _ _ _ (F_X4_reckon_42 k36 (n + 1) v2 v3 D)
    unfold F_X4_reckon_42
    refine ts_iload_n (i := 3) rfl rfl dX4_reckon_42 ?_
    refine ts_bipush rfl dX4_reckon_43 ?_
    refine td_icmp_ge (tgt := 72) rfl dX4_reckon_45 ?_ ?_
    · refine tq_iinc [tv_R 27, tv_R 2, tv_I (tv_w (v2 + (-1))), tv_I v3] rfl rfl rfl dX4_reckon_72 ?_
      refine ts_goto (tgt := 36) rfl dX4_reckon_75 ?_
      refine tv_weak (ls' := [tv_R 27, tv_R 2, tv_I (tv_w (v2 + (-1))), tv_U]) ⟨Or.inr rfl, Or.inr rfl, Or.inr rfl, Or.inl rfl, trivial⟩ ?_
      exact hk36 (tv_w (v2 + (-1))) D
    · refine ts_aload_n (i := 0) rfl rfl dX4_reckon_48 ?_
      refine td_getR (q := 28) tl_X4_11 rfl ga_c_27 rfl dX4_reckon_49 ?_
      refine ts_iload_n (i := 2) rfl rfl dX4_reckon_52 ?_
      refine ts_bipush rfl dX4_reckon_53 ?_
      refine ts_imul dX4_reckon_55 ?_
      refine ts_iload_n (i := 3) rfl rfl dX4_reckon_56 ?_
      refine ts_iadd dX4_reckon_57 ?_
      refine ts_aload_n (i := 0) rfl rfl dX4_reckon_58 ?_
      refine ts_aload_n (i := 1) rfl rfl dX4_reckon_59 ?_
      refine ts_iload_n (i := 2) rfl rfl dX4_reckon_60 ?_
      refine ts_iload_n (i := 3) rfl rfl dX4_reckon_61 ?_
      refine tq_callV (y2 := mX4_bestFrom) [tv_R 2, tv_I v2, tv_I v3] [tv_I (tv_w ((tv_w (v2 * 64)) + v3)), tv_R 28] 27 (st' := fun r1 => [tv_I r1, tv_I (tv_w ((tv_w (v2 * 64)) + v3)), tv_R 28]) tw_X4_bestFrom tx_X4_bestFrom tw_c4 ga_c_27 tl_X4_21 rfl rfl rfl rfl (fun _ => rfl) dX4_reckon_62 (S_X4_bestFrom l hE _ v2 v3 D) (fun r1 D2 => ?_)
      refine td_guard (fun h3 => ?_)
      refine td_iastK ga_c_28 (gn_c_28 _) h3 dX4_reckon_65 ?_
      refine td_let (fun D4 => ?_)
      refine tq_iinc [tv_R 27, tv_R 2, tv_I v2, tv_I (tv_w (v3 + 1))] rfl rfl rfl dX4_reckon_66 ?_
      refine ts_goto (tgt := 42) rfl dX4_reckon_69 ?_
      exact ih v2 (tv_w (v3 + 1)) D4
def F_X4_reckon_36 : Nat → Int → td_D → Option (Int × td_D)
  | 0, _, _ => none
  | n + 1, v2, D =>
    if v2 < 0 then
      some (0, D)
    else
      F_X4_reckon_42 (fun v2 D => F_X4_reckon_36 n v2 D) tf_N v2 0 D
set_option maxHeartbeats 4000000 in
set_option maxRecDepth 20000 in
theorem S_X4_reckon_36 {l : Launch} {E : tv_E} (hE : tv_hE E) (d : Nat) : ∀ (n : Nat) (v2 : Int) (D : td_D), td_sim l E (d + 3) mX4_reckon g_c 36 [tv_R 27, tv_R 2, tv_I v2, tv_U] [] D (F_X4_reckon_36 n v2 D) := by
  intro n
  induction n with
  | zero => intros; exact tv_none
  | succ n ih =>
    intro v2 D
    show td_sim _ _ _ _ _ _ _ _ _ (F_X4_reckon_36 (n + 1) v2 D)
    unfold F_X4_reckon_36
    refine ts_iload_n (i := 2) rfl rfl dX4_reckon_36 ?_
    refine td_if_lt (tgt := 78) rfl dX4_reckon_37 ?_ ?_
    · exact td_vret rfl dX4_reckon_78
    · refine ts_iconst rfl dX4_reckon_40 ?_
      refine tq_istore_n [tv_R 27, tv_R 2, tv_I v2, tv_I 0] rfl (Nat.le_of_ble_eq_true rfl) rfl rfl dX4_reckon_41 ?_
      exact S_X4_reckon_42 hE d (fun v2 D => F_X4_reckon_36 n v2 D) (fun v2 D => ih v2 D) tf_N v2 0 D
def F_X4_reckon_2 : Nat → Int → td_D → Option (Int × td_D)
  | 0, _, _ => none
  | n + 1, v2, D =>
    if 64 ≤ v2 then
      F_X4_reckon_36 tf_N (tv_w ((D 2 2) - 1)) D
    else
      if 0 ≤ tv_w ((tv_w ((D 2 2) * 64)) + v2) ∧ tv_w ((tv_w ((D 2 2) * 64)) + v2) < ((704 : Nat) : Int) then
        td_l (td_upd D 28 (Int.toNat (tv_w ((tv_w ((D 2 2) * 64)) + v2))) 0) fun D6 =>
        F_X4_reckon_2 n (tv_w (v2 + 1)) D6
      else none
set_option maxHeartbeats 4000000 in
set_option maxRecDepth 20000 in
theorem S_X4_reckon_2 {l : Launch} {E : tv_E} (hE : tv_hE E) (d : Nat) : ∀ (n : Nat) (v2 : Int) (D : td_D), td_sim l E (d + 3) mX4_reckon g_c 2 [tv_R 27, tv_R 2, tv_I v2, tv_U] [] D (F_X4_reckon_2 n v2 D) := by
  intro n
  induction n with
  | zero => intros; exact tv_none
  | succ n ih =>
    intro v2 D
    show td_sim _ _ _ _ _ _ _ _ _ (F_X4_reckon_2 (n + 1) v2 D)
    unfold F_X4_reckon_2
    refine ts_iload_n (i := 2) rfl rfl dX4_reckon_2 ?_
    refine ts_bipush rfl dX4_reckon_3 ?_
    refine td_icmp_ge (tgt := 29) rfl dX4_reckon_5 ?_ ?_
    · refine ts_aload_n (i := 1) rfl rfl dX4_reckon_29 ?_
      refine td_getI tl_X4_15 rfl ga_c_2 rfl dX4_reckon_30 ?_
      refine ts_iconst rfl dX4_reckon_33 ?_
      refine ts_isub dX4_reckon_34 ?_
      refine tq_istore_n [tv_R 27, tv_R 2, tv_I (tv_w ((D 2 2) - 1)), tv_U] rfl (Nat.le_of_ble_eq_true rfl) rfl rfl dX4_reckon_35 ?_
      exact S_X4_reckon_36 hE d tf_N (tv_w ((D 2 2) - 1)) D
    · refine ts_aload_n (i := 0) rfl rfl dX4_reckon_8 ?_
      refine td_getR (q := 28) tl_X4_11 rfl ga_c_27 rfl dX4_reckon_9 ?_
      refine ts_aload_n (i := 1) rfl rfl dX4_reckon_12 ?_
      refine td_getI tl_X4_15 rfl ga_c_2 rfl dX4_reckon_13 ?_
      refine ts_bipush rfl dX4_reckon_16 ?_
      refine ts_imul dX4_reckon_18 ?_
      refine ts_iload_n (i := 2) rfl rfl dX4_reckon_19 ?_
      refine ts_iadd dX4_reckon_20 ?_
      refine ts_iconst rfl dX4_reckon_21 ?_
      refine td_guard (fun h5 => ?_)
      refine td_iastK ga_c_28 (gn_c_28 _) h5 dX4_reckon_22 ?_
      refine td_let (fun D6 => ?_)
      refine tq_iinc [tv_R 27, tv_R 2, tv_I (tv_w (v2 + 1)), tv_U] rfl rfl rfl dX4_reckon_23 ?_
      refine ts_goto (tgt := 2) rfl dX4_reckon_26 ?_
      exact ih (tv_w (v2 + 1)) D6
def F_X4_reckon (D : td_D) : Option (Int × td_D) :=
  F_X4_reckon_2 tf_N 0 D
set_option maxHeartbeats 4000000 in
set_option maxRecDepth 20000 in
theorem S_X4_reckon (l : Launch) {E : tv_E} (hE : tv_hE E) (d : Nat) (D : td_D) : td_msim l E (d + 3) mX4_reckon g_c [tv_R 27, tv_R 2] D (F_X4_reckon D) := by
  refine td_meetL (ls := [tv_R 27, tv_R 2, tv_U, tv_U]) rfl (Nat.le_of_ble_eq_true rfl) rfl ?_
  unfold F_X4_reckon
  refine ts_iconst rfl dX4_reckon_0 ?_
  refine tq_istore_n [tv_R 27, tv_R 2, tv_I 0, tv_U] rfl (Nat.le_of_ble_eq_true rfl) rfl rfl dX4_reckon_1 ?_
  exact S_X4_reckon_2 hE d tf_N 0 D
