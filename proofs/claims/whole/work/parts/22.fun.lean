def F_X10_leastPrice_47 : Nat → Int → Int → td_D → Option (Int × td_D)
  | 0, _, _, _ => none
  | n + 1, v2, v3, D =>
    if 100 ≤ v3 then
      if 0 ≤ v2 ∧ v2 < ((100 : Nat) : Int) then
        some (D 25 (Int.toNat v2), D)
      else none
    else
      td_b (F_X10_cheapestOpen D) fun r2 D3 =>
      if r2 = (-1) then
        if 0 ≤ v2 ∧ v2 < ((100 : Nat) : Int) then
          some (D3 25 (Int.toNat v2), D3)
        else none
      else
        if r2 = v2 then
          if 0 ≤ v2 ∧ v2 < ((100 : Nat) : Int) then
            some (D3 25 (Int.toNat v2), D3)
          else none
        else
          if 0 ≤ r2 ∧ r2 < ((100 : Nat) : Int) then
            td_l (td_upd D3 26 (Int.toNat r2) 1) fun D7 =>
            td_b (F_X10_cheapen r2 D7) fun _ D9 =>
            F_X10_leastPrice_47 n v2 (tv_w (v3 + 1)) D9
          else none
set_option maxHeartbeats 4000000 in
set_option maxRecDepth 20000 in
theorem S_X10_leastPrice_47 {l : Launch} {E : tv_E} (hE : tv_hE E) (d : Nat) : ∀ (n : Nat) (v2 : Int) (v3 : Int) (D : td_D), td_sim l E (d + 2) mX10_leastPrice g_c 47 [tv_R 23, tv_U, tv_I v2, tv_I v3, tv_U] [] D (F_X10_leastPrice_47 n v2 v3 D) := by
  intro n
  induction n with
  | zero => intros; exact tv_none
  | succ n ih =>
    intro v2 v3 D
    show td_sim _ _ _ _ _ _ _ _ _ (F_X10_leastPrice_47 (n + 1) v2 v3 D)
    unfold F_X10_leastPrice_47
    refine ts_iload_n (i := 3) rfl rfl dX10_leastPrice_47 ?_
    refine ts_bipush rfl dX10_leastPrice_48 ?_
    refine td_icmp_ge (tgt := 94) rfl dX10_leastPrice_50 ?_ ?_
    · refine ts_aload_n (i := 0) rfl rfl dX10_leastPrice_94 ?_
      refine td_getR (q := 25) tl_X10_15 rfl ga_c_23 rfl dX10_leastPrice_95 ?_
      refine ts_iload_n (i := 2) rfl rfl dX10_leastPrice_98 ?_
      refine td_guard (fun h1 => ?_)
      refine td_ialdK ga_c_25 (gn_c_25 _) h1 dX10_leastPrice_99 ?_
      exact td_iret rfl dX10_leastPrice_100
    · refine ts_aload_n (i := 0) rfl rfl dX10_leastPrice_53 ?_
      refine tq_callV (y2 := mX10_cheapestOpen) [] [] 23 (st' := fun r2 => [tv_I r2]) tw_X10_cheapestOpen tx_X10_cheapestOpen tw_c10 ga_c_23 tl_X10_65 rfl rfl rfl rfl (fun _ => rfl) dX10_leastPrice_54 (S_X10_cheapestOpen l hE _ D) (fun r2 D3 => ?_)
      refine tq_istore [tv_R 23, tv_U, tv_I v2, tv_I v3, tv_I r2] (Nat.le_of_ble_eq_true rfl) rfl rfl dX10_leastPrice_57 ?_
      refine ts_iload rfl dX10_leastPrice_59 ?_
      refine ts_iconst rfl dX10_leastPrice_61 ?_
      refine td_icmp_eq (tgt := 94) rfl dX10_leastPrice_62 ?_ ?_
      · refine ts_aload_n (i := 0) rfl rfl dX10_leastPrice_94 ?_
        refine td_getR (q := 25) tl_X10_15 rfl ga_c_23 rfl dX10_leastPrice_95 ?_
        refine ts_iload_n (i := 2) rfl rfl dX10_leastPrice_98 ?_
        refine td_guard (fun h4 => ?_)
        refine td_ialdK ga_c_25 (gn_c_25 _) h4 dX10_leastPrice_99 ?_
        exact td_iret rfl dX10_leastPrice_100
      · refine ts_iload rfl dX10_leastPrice_65 ?_
        refine ts_iload_n (i := 2) rfl rfl dX10_leastPrice_67 ?_
        refine td_icmp_ne (tgt := 74) rfl dX10_leastPrice_68 ?_ ?_
        · refine ts_goto (tgt := 94) rfl dX10_leastPrice_71 ?_
          refine ts_aload_n (i := 0) rfl rfl dX10_leastPrice_94 ?_
          refine td_getR (q := 25) tl_X10_15 rfl ga_c_23 rfl dX10_leastPrice_95 ?_
          refine ts_iload_n (i := 2) rfl rfl dX10_leastPrice_98 ?_
          refine td_guard (fun h5 => ?_)
          refine td_ialdK ga_c_25 (gn_c_25 _) h5 dX10_leastPrice_99 ?_
          exact td_iret rfl dX10_leastPrice_100
        · refine ts_aload_n (i := 0) rfl rfl dX10_leastPrice_74 ?_
          refine td_getR (q := 26) tl_X10_18 rfl ga_c_23 rfl dX10_leastPrice_75 ?_
          refine ts_iload rfl dX10_leastPrice_78 ?_
          refine ts_iconst rfl dX10_leastPrice_80 ?_
          refine td_guard (fun h6 => ?_)
          refine td_iastK ga_c_26 (gn_c_26 _) h6 dX10_leastPrice_81 ?_
          refine td_let (fun D7 => ?_)
          refine ts_aload_n (i := 0) rfl rfl dX10_leastPrice_82 ?_
          refine ts_iload rfl dX10_leastPrice_83 ?_
          refine tq_callV (y2 := mX10_cheapen) [tv_I r2] [] 23 (st' := fun _ => []) tw_X10_cheapen tx_X10_cheapen tw_c10 ga_c_23 tl_X10_69 rfl rfl rfl rfl (fun _ => rfl) dX10_leastPrice_85 (S_X10_cheapen l hE _ r2 D7) (fun r8 D9 => ?_)
          refine tq_iinc [tv_R 23, tv_U, tv_I v2, tv_I (tv_w (v3 + 1)), tv_I r2] rfl rfl rfl dX10_leastPrice_88 ?_
          refine ts_goto (tgt := 47) rfl dX10_leastPrice_91 ?_
          refine tv_weak (ls' := [tv_R 23, tv_U, tv_I v2, tv_I (tv_w (v3 + 1)), tv_U]) ⟨Or.inr rfl, Or.inl rfl, Or.inr rfl, Or.inr rfl, Or.inl rfl, trivial⟩ ?_
          exact ih v2 (tv_w (v3 + 1)) D9
def F_X10_leastPrice_2 : Nat → Int → Int → Int → td_D → Option (Int × td_D)
  | 0, _, _, _, _ => none
  | n + 1, v1, v2, v3, D =>
    if 100 ≤ v3 then
      if 0 ≤ v1 ∧ v1 < ((100 : Nat) : Int) then
        td_l (td_upd D 25 (Int.toNat v1) (tv_w ((D 24 (Int.toNat v1)) * 1000))) fun D11 =>
        F_X10_leastPrice_47 tf_N v2 0 D11
      else none
    else
      if 0 ≤ v3 ∧ v3 < ((100 : Nat) : Int) then
        td_l (td_upd D 25 (Int.toNat v3) 1000000000) fun D13 =>
        td_l (td_upd D13 26 (Int.toNat v3) 0) fun D14 =>
        F_X10_leastPrice_2 n v1 v2 (tv_w (v3 + 1)) D14
      else none
set_option maxHeartbeats 4000000 in
set_option maxRecDepth 20000 in
theorem S_X10_leastPrice_2 {l : Launch} {E : tv_E} (hE : tv_hE E) (d : Nat) : ∀ (n : Nat) (v1 : Int) (v2 : Int) (v3 : Int) (D : td_D), td_sim l E (d + 2) mX10_leastPrice g_c 2 [tv_R 23, tv_I v1, tv_I v2, tv_I v3, tv_U] [] D (F_X10_leastPrice_2 n v1 v2 v3 D) := by
  intro n
  induction n with
  | zero => intros; exact tv_none
  | succ n ih =>
    intro v1 v2 v3 D
    show td_sim _ _ _ _ _ _ _ _ _ (F_X10_leastPrice_2 (n + 1) v1 v2 v3 D)
    unfold F_X10_leastPrice_2
    refine ts_iload_n (i := 3) rfl rfl dX10_leastPrice_2 ?_
    refine ts_bipush rfl dX10_leastPrice_3 ?_
    refine td_icmp_ge (tgt := 29) rfl dX10_leastPrice_5 ?_ ?_
    · refine ts_aload_n (i := 0) rfl rfl dX10_leastPrice_29 ?_
      refine td_getR (q := 25) tl_X10_15 rfl ga_c_23 rfl dX10_leastPrice_30 ?_
      refine ts_iload_n (i := 1) rfl rfl dX10_leastPrice_33 ?_
      refine ts_aload_n (i := 0) rfl rfl dX10_leastPrice_34 ?_
      refine td_getR (q := 24) tl_X10_9 rfl ga_c_23 rfl dX10_leastPrice_35 ?_
      refine ts_iload_n (i := 1) rfl rfl dX10_leastPrice_38 ?_
      refine td_guard (fun h10 => ?_)
      refine td_ialdK ga_c_24 (gn_c_24 _) h10 dX10_leastPrice_39 ?_
      refine ts_sipush rfl dX10_leastPrice_40 ?_
      refine ts_imul dX10_leastPrice_43 ?_
      refine td_iastK ga_c_25 (gn_c_25 _) h10 dX10_leastPrice_44 ?_
      refine td_let (fun D11 => ?_)
      refine ts_iconst rfl dX10_leastPrice_45 ?_
      refine tq_istore_n [tv_R 23, tv_I v1, tv_I v2, tv_I 0, tv_U] rfl (Nat.le_of_ble_eq_true rfl) rfl rfl dX10_leastPrice_46 ?_
      refine tv_weak (ls' := [tv_R 23, tv_U, tv_I v2, tv_I 0, tv_U]) ⟨Or.inr rfl, Or.inl rfl, Or.inr rfl, Or.inr rfl, Or.inl rfl, trivial⟩ ?_
      exact S_X10_leastPrice_47 hE d tf_N v2 0 D11
    · refine ts_aload_n (i := 0) rfl rfl dX10_leastPrice_8 ?_
      refine td_getR (q := 25) tl_X10_15 rfl ga_c_23 rfl dX10_leastPrice_9 ?_
      refine ts_iload_n (i := 3) rfl rfl dX10_leastPrice_12 ?_
      refine ts_ldc rfl tl_X10_64 dX10_leastPrice_13 ?_
      refine td_guard (fun h12 => ?_)
      refine td_iastK ga_c_25 (gn_c_25 _) h12 dX10_leastPrice_15 ?_
      refine td_let (fun D13 => ?_)
      refine ts_aload_n (i := 0) rfl rfl dX10_leastPrice_16 ?_
      refine td_getR (q := 26) tl_X10_18 rfl ga_c_23 rfl dX10_leastPrice_17 ?_
      refine ts_iload_n (i := 3) rfl rfl dX10_leastPrice_20 ?_
      refine ts_iconst rfl dX10_leastPrice_21 ?_
      refine td_iastK ga_c_26 (gn_c_26 _) h12 dX10_leastPrice_22 ?_
      refine td_let (fun D14 => ?_)
      refine tq_iinc [tv_R 23, tv_I v1, tv_I v2, tv_I (tv_w (v3 + 1)), tv_U] rfl rfl rfl dX10_leastPrice_23 ?_
      refine ts_goto (tgt := 2) rfl dX10_leastPrice_26 ?_
      exact ih v1 v2 (tv_w (v3 + 1)) D14
def F_X10_leastPrice (a1 : Int) (a2 : Int) (D : td_D) : Option (Int × td_D) :=
  F_X10_leastPrice_2 tf_N a1 a2 0 D
set_option maxHeartbeats 4000000 in
set_option maxRecDepth 20000 in
theorem S_X10_leastPrice (l : Launch) {E : tv_E} (hE : tv_hE E) (d : Nat) (a1 : Int) (a2 : Int) (D : td_D) : td_msim l E (d + 2) mX10_leastPrice g_c [tv_R 23, tv_I a1, tv_I a2] D (F_X10_leastPrice a1 a2 D) := by
  refine td_meetL (ls := [tv_R 23, tv_I a1, tv_I a2, tv_U, tv_U]) rfl (Nat.le_of_ble_eq_true rfl) rfl ?_
  unfold F_X10_leastPrice
  refine ts_iconst rfl dX10_leastPrice_0 ?_
  refine tq_istore_n [tv_R 23, tv_I a1, tv_I a2, tv_I 0, tv_U] rfl (Nat.le_of_ble_eq_true rfl) rfl rfl dX10_leastPrice_1 ?_
  exact S_X10_leastPrice_2 hE d tf_N a1 a2 0 D
def F_X11_person (a1 : Int) (D : td_D) : Option (Int × td_D) :=
  td_b (F_X11_isTemper a1 D) fun r1 D2 =>
  if r1 = 0 then
    some ((-1), D2)
  else
    if D2 2 0 < 6 then
      td_b (F_X3_addPerson a1 D2) fun r3 D4 =>
      some (r3, D4)
    else
      some ((-3), D2)
set_option maxHeartbeats 4000000 in
set_option maxRecDepth 20000 in
theorem S_X11_person (l : Launch) {E : tv_E} (hE : tv_hE E) (d : Nat) (a1 : Int) (D : td_D) : td_msim l E (d + 1) mX11_person g_c [tv_R 1, tv_I a1] D (F_X11_person a1 D) := by
  refine td_meetL (ls := [tv_R 1, tv_I a1]) rfl (Nat.le_of_ble_eq_true rfl) rfl ?_
  unfold F_X11_person
  refine ts_iload_n (i := 1) rfl rfl dX11_person_0 ?_
  refine tq_callS (y2 := mX11_isTemper) [tv_I a1] [] (st' := fun r1 => [tv_I r1]) tw_X11_isTemper tx_X11_isTemper tl_X11_99 rfl rfl rfl rfl (fun _ => rfl) dX11_person_1 (S_X11_isTemper l hE _ a1 D) (fun r1 D2 => ?_)
  refine td_if_ne (tgt := 9) rfl dX11_person_4 ?_ ?_
  · refine ts_iconst rfl dX11_person_7 ?_
    exact td_iret rfl dX11_person_8
  · refine ts_aload_n (i := 0) rfl rfl dX11_person_9 ?_
    refine td_getR (q := 2) tl_X11_12 rfl ga_c_1 rfl dX11_person_10 ?_
    refine td_getI tl_X11_103 rfl ga_c_2 rfl dX11_person_13 ?_
    refine ts_bipush rfl dX11_person_16 ?_
    refine td_icmp_lt (tgt := 26) rfl dX11_person_18 ?_ ?_
    · refine ts_aload_n (i := 0) rfl rfl dX11_person_26 ?_
      refine td_getR (q := 2) tl_X11_12 rfl ga_c_1 rfl dX11_person_27 ?_
      refine ts_iload_n (i := 1) rfl rfl dX11_person_30 ?_
      refine tq_callV (y2 := mX3_addPerson) [tv_I a1] [] 2 (st' := fun r3 => [tv_I r3]) tw_X3_addPerson tx_X3_addPerson tw_c3 ga_c_2 tl_X11_107 rfl rfl rfl rfl (fun _ => rfl) dX11_person_31 (S_X3_addPerson l hE _ a1 D2) (fun r3 D4 => ?_)
      exact td_iret rfl dX11_person_34
    · refine ts_bipush rfl dX11_person_21 ?_
      refine ts_goto (tgt := 34) rfl dX11_person_23 ?_
      exact td_iret rfl dX11_person_34
def F_X11_isCell (a0 : Int) (D : td_D) : Option (Int × td_D) :=
  if a0 < 0 then
    some (0, D)
  else
    if 100 ≤ a0 then
      some (0, D)
    else
      some (1, D)
set_option maxHeartbeats 4000000 in
set_option maxRecDepth 20000 in
theorem S_X11_isCell (l : Launch) {E : tv_E} (hE : tv_hE E) (d : Nat) (a0 : Int) (D : td_D) : td_msim l E (d + 0) mX11_isCell g_c [tv_I a0] D (F_X11_isCell a0 D) := by
  refine td_meetL (ls := [tv_I a0]) rfl (Nat.le_of_ble_eq_true rfl) rfl ?_
  unfold F_X11_isCell
  refine ts_iload_n (i := 0) rfl rfl dX11_isCell_0 ?_
  refine td_if_lt (tgt := 14) rfl dX11_isCell_1 ?_ ?_
  · refine ts_iconst rfl dX11_isCell_14 ?_
    exact td_zretK (Or.inl rfl) rfl dX11_isCell_15
  · refine ts_iload_n (i := 0) rfl rfl dX11_isCell_4 ?_
    refine ts_bipush rfl dX11_isCell_5 ?_
    refine td_icmp_ge (tgt := 14) rfl dX11_isCell_7 ?_ ?_
    · refine ts_iconst rfl dX11_isCell_14 ?_
      exact td_zretK (Or.inl rfl) rfl dX11_isCell_15
    · refine ts_iconst rfl dX11_isCell_10 ?_
      refine ts_goto (tgt := 15) rfl dX11_isCell_11 ?_
      exact td_zretK (Or.inr rfl) rfl dX11_isCell_15
def F_X11_hive (a1 : Int) (D : td_D) : Option (Int × td_D) :=
  td_b (F_X11_isCell a1 D) fun r1 D2 =>
  if r1 = 0 then
    some ((-1), D2)
  else
    if D2 2 1 < 5 then
      td_b (F_X3_addHive a1 D2) fun r3 D4 =>
      some (r3, D4)
    else
      some ((-3), D2)
set_option maxHeartbeats 4000000 in
set_option maxRecDepth 20000 in
theorem S_X11_hive (l : Launch) {E : tv_E} (hE : tv_hE E) (d : Nat) (a1 : Int) (D : td_D) : td_msim l E (d + 1) mX11_hive g_c [tv_R 1, tv_I a1] D (F_X11_hive a1 D) := by
  refine td_meetL (ls := [tv_R 1, tv_I a1]) rfl (Nat.le_of_ble_eq_true rfl) rfl ?_
  unfold F_X11_hive
  refine ts_iload_n (i := 1) rfl rfl dX11_hive_0 ?_
  refine tq_callS (y2 := mX11_isCell) [tv_I a1] [] (st' := fun r1 => [tv_I r1]) tw_X11_isCell tx_X11_isCell tl_X11_111 rfl rfl rfl rfl (fun _ => rfl) dX11_hive_1 (S_X11_isCell l hE _ a1 D) (fun r1 D2 => ?_)
  refine td_if_ne (tgt := 9) rfl dX11_hive_4 ?_ ?_
  · refine ts_iconst rfl dX11_hive_7 ?_
    exact td_iret rfl dX11_hive_8
  · refine ts_aload_n (i := 0) rfl rfl dX11_hive_9 ?_
    refine td_getR (q := 2) tl_X11_12 rfl ga_c_1 rfl dX11_hive_10 ?_
    refine td_getI tl_X11_114 rfl ga_c_2 rfl dX11_hive_13 ?_
    refine ts_iconst rfl dX11_hive_16 ?_
    refine td_icmp_lt (tgt := 25) rfl dX11_hive_17 ?_ ?_
    · refine ts_aload_n (i := 0) rfl rfl dX11_hive_25 ?_
      refine td_getR (q := 2) tl_X11_12 rfl ga_c_1 rfl dX11_hive_26 ?_
      refine ts_iload_n (i := 1) rfl rfl dX11_hive_29 ?_
      refine tq_callV (y2 := mX3_addHive) [tv_I a1] [] 2 (st' := fun r3 => [tv_I r3]) tw_X3_addHive tx_X3_addHive tw_c3 ga_c_2 tl_X11_117 rfl rfl rfl rfl (fun _ => rfl) dX11_hive_30 (S_X3_addHive l hE _ a1 D2) (fun r3 D4 => ?_)
      exact td_iret rfl dX11_hive_33
    · refine ts_bipush rfl dX11_hive_20 ?_
      refine ts_goto (tgt := 33) rfl dX11_hive_22 ?_
      exact td_iret rfl dX11_hive_33
def F_X11_isDeedAsItMayBe (a0 : Int) (a1 : Int) (a2 : Int) (D : td_D) : Option (Int × td_D) :=
  td_b (F_X11_isTemper a0 D) fun r1 D2 =>
  if r1 = 0 then
    some (0, D2)
  else
    td_b (F_X11_isTemper a1 D2) fun r3 D4 =>
    if r3 = 0 then
      some (0, D4)
    else
      if a1 < a0 then
        some (0, D4)
      else
        td_b (F_X11_isTemper a2 D4) fun r5 D6 =>
        if r5 = 0 then
          some (0, D6)
        else
          some (1, D6)
set_option maxHeartbeats 4000000 in
set_option maxRecDepth 20000 in
theorem S_X11_isDeedAsItMayBe (l : Launch) {E : tv_E} (hE : tv_hE E) (d : Nat) (a0 : Int) (a1 : Int) (a2 : Int) (D : td_D) : td_msim l E (d + 1) mX11_isDeedAsItMayBe g_c [tv_I a0, tv_I a1, tv_I a2] D (F_X11_isDeedAsItMayBe a0 a1 a2 D) := by
  refine td_meetL (ls := [tv_I a0, tv_I a1, tv_I a2]) rfl (Nat.le_of_ble_eq_true rfl) rfl ?_
  unfold F_X11_isDeedAsItMayBe
  refine ts_iload_n (i := 0) rfl rfl dX11_isDeedAsItMayBe_0 ?_
  refine tq_callS (y2 := mX11_isTemper) [tv_I a0] [] (st' := fun r1 => [tv_I r1]) tw_X11_isTemper tx_X11_isTemper tl_X11_99 rfl rfl rfl rfl (fun _ => rfl) dX11_isDeedAsItMayBe_1 (S_X11_isTemper l hE _ a0 D) (fun r1 D2 => ?_)
  refine td_if_eq (tgt := 30) rfl dX11_isDeedAsItMayBe_4 ?_ ?_
  · refine ts_iconst rfl dX11_isDeedAsItMayBe_30 ?_
    exact td_zretK (Or.inl rfl) rfl dX11_isDeedAsItMayBe_31
  · refine ts_iload_n (i := 1) rfl rfl dX11_isDeedAsItMayBe_7 ?_
    refine tq_callS (y2 := mX11_isTemper) [tv_I a1] [] (st' := fun r3 => [tv_I r3]) tw_X11_isTemper tx_X11_isTemper tl_X11_99 rfl rfl rfl rfl (fun _ => rfl) dX11_isDeedAsItMayBe_8 (S_X11_isTemper l hE _ a1 D2) (fun r3 D4 => ?_)
    refine td_if_eq (tgt := 30) rfl dX11_isDeedAsItMayBe_11 ?_ ?_
    · refine ts_iconst rfl dX11_isDeedAsItMayBe_30 ?_
      exact td_zretK (Or.inl rfl) rfl dX11_isDeedAsItMayBe_31
    · refine ts_iload_n (i := 0) rfl rfl dX11_isDeedAsItMayBe_14 ?_
      refine ts_iload_n (i := 1) rfl rfl dX11_isDeedAsItMayBe_15 ?_
      refine td_icmp_gt (tgt := 30) rfl dX11_isDeedAsItMayBe_16 ?_ ?_
      · refine ts_iconst rfl dX11_isDeedAsItMayBe_30 ?_
        exact td_zretK (Or.inl rfl) rfl dX11_isDeedAsItMayBe_31
      · refine ts_iload_n (i := 2) rfl rfl dX11_isDeedAsItMayBe_19 ?_
        refine tq_callS (y2 := mX11_isTemper) [tv_I a2] [] (st' := fun r5 => [tv_I r5]) tw_X11_isTemper tx_X11_isTemper tl_X11_99 rfl rfl rfl rfl (fun _ => rfl) dX11_isDeedAsItMayBe_20 (S_X11_isTemper l hE _ a2 D4) (fun r5 D6 => ?_)
        refine td_if_eq (tgt := 30) rfl dX11_isDeedAsItMayBe_23 ?_ ?_
        · refine ts_iconst rfl dX11_isDeedAsItMayBe_30 ?_
          exact td_zretK (Or.inl rfl) rfl dX11_isDeedAsItMayBe_31
        · refine ts_iconst rfl dX11_isDeedAsItMayBe_26 ?_
          refine ts_goto (tgt := 31) rfl dX11_isDeedAsItMayBe_27 ?_
          exact td_zretK (Or.inr rfl) rfl dX11_isDeedAsItMayBe_31
def F_X11_deed (a1 : Int) (a2 : Int) (D : td_D) : Option (Int × td_D) :=
  td_b (F_X11_isDeedAsItMayBe a1 a2 10 D) fun r1 D2 =>
  if r1 = 0 then
    some ((-1), D2)
  else
    if D2 2 2 < 10 then
      td_b (F_X3_addDeed a1 a2 10 D2) fun r3 D4 =>
      some (r3, D4)
    else
      some ((-3), D2)
set_option maxHeartbeats 4000000 in
set_option maxRecDepth 20000 in
theorem S_X11_deed (l : Launch) {E : tv_E} (hE : tv_hE E) (d : Nat) (a1 : Int) (a2 : Int) (D : td_D) : td_msim l E (d + 2) mX11_deed g_c [tv_R 1, tv_I a1, tv_I a2] D (F_X11_deed a1 a2 D) := by
  refine td_meetL (ls := [tv_R 1, tv_I a1, tv_I a2]) rfl (Nat.le_of_ble_eq_true rfl) rfl ?_
  unfold F_X11_deed
  refine ts_iload_n (i := 1) rfl rfl dX11_deed_0 ?_
  refine ts_iload_n (i := 2) rfl rfl dX11_deed_1 ?_
  refine ts_bipush rfl dX11_deed_2 ?_
  refine tq_callS (y2 := mX11_isDeedAsItMayBe) [tv_I a1, tv_I a2, tv_I 10] [] (st' := fun r1 => [tv_I r1]) tw_X11_isDeedAsItMayBe tx_X11_isDeedAsItMayBe tl_X11_120 rfl rfl rfl rfl (fun _ => rfl) dX11_deed_4 (S_X11_isDeedAsItMayBe l hE _ a1 a2 10 D) (fun r1 D2 => ?_)
  refine td_if_ne (tgt := 12) rfl dX11_deed_7 ?_ ?_
  · refine ts_iconst rfl dX11_deed_10 ?_
    exact td_iret rfl dX11_deed_11
  · refine ts_aload_n (i := 0) rfl rfl dX11_deed_12 ?_
    refine td_getR (q := 2) tl_X11_12 rfl ga_c_1 rfl dX11_deed_13 ?_
    refine td_getI tl_X11_124 rfl ga_c_2 rfl dX11_deed_16 ?_
    refine ts_bipush rfl dX11_deed_19 ?_
    refine td_icmp_lt (tgt := 29) rfl dX11_deed_21 ?_ ?_
    · refine ts_aload_n (i := 0) rfl rfl dX11_deed_29 ?_
      refine td_getR (q := 2) tl_X11_12 rfl ga_c_1 rfl dX11_deed_30 ?_
      refine ts_iload_n (i := 1) rfl rfl dX11_deed_33 ?_
      refine ts_iload_n (i := 2) rfl rfl dX11_deed_34 ?_
      refine ts_bipush rfl dX11_deed_35 ?_
      refine tq_callV (y2 := mX3_addDeed) [tv_I a1, tv_I a2, tv_I 10] [] 2 (st' := fun r3 => [tv_I r3]) tw_X3_addDeed tx_X3_addDeed tw_c3 ga_c_2 tl_X11_127 rfl rfl rfl rfl (fun _ => rfl) dX11_deed_37 (S_X3_addDeed l hE _ a1 a2 10 D2) (fun r3 D4 => ?_)
      exact td_iret rfl dX11_deed_40
    · refine ts_bipush rfl dX11_deed_24 ?_
      refine ts_goto (tgt := 40) rfl dX11_deed_26 ?_
      exact td_iret rfl dX11_deed_40
def F_X11_addDeedFrom (p1 : Nat) (a2 : Int) (D : td_D) : Option (Int × td_D) :=
  td_b (F_X6_at p1 a2 D) fun r1 D2 =>
  td_b (F_X6_at p1 (tv_w (a2 + 1)) D2) fun r3 D4 =>
  td_b (F_X6_at p1 (tv_w (a2 + 2)) D4) fun r5 D6 =>
  td_b (F_X11_isDeedAsItMayBe r1 r3 r5 D6) fun r7 D8 =>
  if r7 = 0 then
    some (0, D8)
  else
    if D8 2 2 < 10 then
      td_b (F_X3_addDeed r1 r3 r5 D8) fun r9 D10 =>
      some (1, D10)
    else
      some (0, D8)
set_option maxHeartbeats 4000000 in
set_option maxRecDepth 20000 in
theorem S_X11_addDeedFrom (l : Launch) {E : tv_E} (hE : tv_hE E) (d : Nat) (p1 : Nat) (a2 : Int) (hp1 : tv_isShelf p1) (D : td_D) : td_msim l E (d + 2) mX11_addDeedFrom g_c [tv_R 1, tv_R p1, tv_I a2] D (F_X11_addDeedFrom p1 a2 D) := by
  refine td_meetL (ls := [tv_R 1, tv_R p1, tv_I a2, tv_U, tv_U, tv_U]) rfl (Nat.le_of_ble_eq_true rfl) rfl ?_
  unfold F_X11_addDeedFrom
  refine ts_aload_n (i := 1) rfl rfl dX11_addDeedFrom_0 ?_
  refine ts_iload_n (i := 2) rfl rfl dX11_addDeedFrom_1 ?_
  refine tq_callV (y2 := mX6_at) [tv_I a2] [] p1 (st' := fun r1 => [tv_I r1]) tw_X6_at tx_X6_at tw_c6 hp1.1 tl_X11_141 rfl rfl rfl rfl (fun _ => rfl) dX11_addDeedFrom_2 (S_X6_at l hE _ p1 a2 hp1 D) (fun r1 D2 => ?_)
  refine tq_istore_n [tv_R 1, tv_R p1, tv_I a2, tv_I r1, tv_U, tv_U] rfl (Nat.le_of_ble_eq_true rfl) rfl rfl dX11_addDeedFrom_5 ?_
  refine ts_aload_n (i := 1) rfl rfl dX11_addDeedFrom_6 ?_
  refine ts_iload_n (i := 2) rfl rfl dX11_addDeedFrom_7 ?_
  refine ts_iconst rfl dX11_addDeedFrom_8 ?_
  refine ts_iadd dX11_addDeedFrom_9 ?_
  refine tq_callV (y2 := mX6_at) [tv_I (tv_w (a2 + 1))] [] p1 (st' := fun r3 => [tv_I r3]) tw_X6_at tx_X6_at tw_c6 hp1.1 tl_X11_141 rfl rfl rfl rfl (fun _ => rfl) dX11_addDeedFrom_10 (S_X6_at l hE _ p1 (tv_w (a2 + 1)) hp1 D2) (fun r3 D4 => ?_)
  refine tq_istore [tv_R 1, tv_R p1, tv_I a2, tv_I r1, tv_I r3, tv_U] (Nat.le_of_ble_eq_true rfl) rfl rfl dX11_addDeedFrom_13 ?_
  refine ts_aload_n (i := 1) rfl rfl dX11_addDeedFrom_15 ?_
  refine ts_iload_n (i := 2) rfl rfl dX11_addDeedFrom_16 ?_
  refine ts_iconst rfl dX11_addDeedFrom_17 ?_
  refine ts_iadd dX11_addDeedFrom_18 ?_
  refine tq_callV (y2 := mX6_at) [tv_I (tv_w (a2 + 2))] [] p1 (st' := fun r5 => [tv_I r5]) tw_X6_at tx_X6_at tw_c6 hp1.1 tl_X11_141 rfl rfl rfl rfl (fun _ => rfl) dX11_addDeedFrom_19 (S_X6_at l hE _ p1 (tv_w (a2 + 2)) hp1 D4) (fun r5 D6 => ?_)
  refine tq_istore [tv_R 1, tv_R p1, tv_I a2, tv_I r1, tv_I r3, tv_I r5] (Nat.le_of_ble_eq_true rfl) rfl rfl dX11_addDeedFrom_22 ?_
  refine ts_iload_n (i := 3) rfl rfl dX11_addDeedFrom_24 ?_
  refine ts_iload rfl dX11_addDeedFrom_25 ?_
  refine ts_iload rfl dX11_addDeedFrom_27 ?_
  refine tq_callS (y2 := mX11_isDeedAsItMayBe) [tv_I r1, tv_I r3, tv_I r5] [] (st' := fun r7 => [tv_I r7]) tw_X11_isDeedAsItMayBe tx_X11_isDeedAsItMayBe tl_X11_120 rfl rfl rfl rfl (fun _ => rfl) dX11_addDeedFrom_29 (S_X11_isDeedAsItMayBe l hE _ r1 r3 r5 D6) (fun r7 D8 => ?_)
  refine td_if_eq (tgt := 47) rfl dX11_addDeedFrom_32 ?_ ?_
  · refine ts_iconst rfl dX11_addDeedFrom_47 ?_
    exact td_zretK (Or.inl rfl) rfl dX11_addDeedFrom_48
  · refine ts_aload_n (i := 0) rfl rfl dX11_addDeedFrom_35 ?_
    refine td_getR (q := 2) tl_X11_12 rfl ga_c_1 rfl dX11_addDeedFrom_36 ?_
    refine td_getI tl_X11_124 rfl ga_c_2 rfl dX11_addDeedFrom_39 ?_
    refine ts_bipush rfl dX11_addDeedFrom_42 ?_
    refine td_icmp_lt (tgt := 49) rfl dX11_addDeedFrom_44 ?_ ?_
    · refine ts_aload_n (i := 0) rfl rfl dX11_addDeedFrom_49 ?_
      refine td_getR (q := 2) tl_X11_12 rfl ga_c_1 rfl dX11_addDeedFrom_50 ?_
      refine ts_iload_n (i := 3) rfl rfl dX11_addDeedFrom_53 ?_
      refine ts_iload rfl dX11_addDeedFrom_54 ?_
      refine ts_iload rfl dX11_addDeedFrom_56 ?_
      refine tq_callV (y2 := mX3_addDeed) [tv_I r1, tv_I r3, tv_I r5] [] 2 (st' := fun r9 => [tv_I r9]) tw_X3_addDeed tx_X3_addDeed tw_c3 ga_c_2 tl_X11_127 rfl rfl rfl rfl (fun _ => rfl) dX11_addDeedFrom_58 (S_X3_addDeed l hE _ r1 r3 r5 D8) (fun r9 D10 => ?_)
      refine ts_popI dX11_addDeedFrom_61 ?_
      refine ts_iconst rfl dX11_addDeedFrom_62 ?_
      exact td_zretK (Or.inr rfl) rfl dX11_addDeedFrom_63
    · refine ts_iconst rfl dX11_addDeedFrom_47 ?_
      exact td_zretK (Or.inl rfl) rfl dX11_addDeedFrom_48
def F_X11_isShelf (a0 : Int) (D : td_D) : Option (Int × td_D) :=
  if a0 < 0 then
    some (0, D)
  else
    if 6 ≤ a0 then
      some (0, D)
    else
      some (1, D)
set_option maxHeartbeats 4000000 in
set_option maxRecDepth 20000 in
theorem S_X11_isShelf (l : Launch) {E : tv_E} (hE : tv_hE E) (d : Nat) (a0 : Int) (D : td_D) : td_msim l E (d + 0) mX11_isShelf g_c [tv_I a0] D (F_X11_isShelf a0 D) := by
  refine td_meetL (ls := [tv_I a0]) rfl (Nat.le_of_ble_eq_true rfl) rfl ?_
  unfold F_X11_isShelf
  refine ts_iload_n (i := 0) rfl rfl dX11_isShelf_0 ?_
  refine td_if_lt (tgt := 14) rfl dX11_isShelf_1 ?_ ?_
  · refine ts_iconst rfl dX11_isShelf_14 ?_
    exact td_zretK (Or.inl rfl) rfl dX11_isShelf_15
  · refine ts_iload_n (i := 0) rfl rfl dX11_isShelf_4 ?_
    refine ts_bipush rfl dX11_isShelf_5 ?_
    refine td_icmp_ge (tgt := 14) rfl dX11_isShelf_7 ?_ ?_
    · refine ts_iconst rfl dX11_isShelf_14 ?_
      exact td_zretK (Or.inl rfl) rfl dX11_isShelf_15
    · refine ts_iconst rfl dX11_isShelf_10 ?_
      refine ts_goto (tgt := 15) rfl dX11_isShelf_11 ?_
      exact td_zretK (Or.inr rfl) rfl dX11_isShelf_15
def F_X11_deeds_54 : Nat → Int → Int → Nat → Int → Int → td_D → Option (Int × td_D)
  | 0, _, _, _, _, _, _ => none
  | n + 1, v2, v3, v4, v5, v6, D =>
    if v3 ≤ v6 then
      some (v5, D)
    else
      if D v4 0 = 0 then
        td_b (F_X11_addDeedFrom v4 (tv_w (v2 + (tv_w (3 * v6)))) D) fun r1 D2 =>
        if r1 = 0 then
          some (v5, D2)
        else
          F_X11_deeds_54 n v2 v3 v4 (tv_w (v5 + 1)) (tv_w (v6 + 1)) D2
      else
        some (v5, D)
set_option maxHeartbeats 4000000 in
set_option maxRecDepth 20000 in
theorem S_X11_deeds_54 {l : Launch} {E : tv_E} (hE : tv_hE E) (d : Nat) : ∀ (n : Nat) (v2 : Int) (v3 : Int) (v4 : Nat) (v5 : Int) (v6 : Int) (D : td_D), tv_isShelf v4 → td_sim l E (d + 3) mX11_deeds g_c 54 [tv_R 1, tv_U, tv_I v2, tv_I v3, tv_R v4, tv_I v5, tv_I v6] [] D (F_X11_deeds_54 n v2 v3 v4 v5 v6 D) := by
  intro n
  induction n with
  | zero => intros; exact tv_none
  | succ n ih =>
    intro v2 v3 v4 v5 v6 D hv4
    show td_sim _ _ _ _ _ _ _ _ _ (F_X11_deeds_54 (n + 1) v2 v3 v4 v5 v6 D)
    unfold F_X11_deeds_54
    refine ts_iload rfl dX11_deeds_54 ?_
    refine ts_iload_n (i := 3) rfl rfl dX11_deeds_56 ?_
    refine td_icmp_ge (tgt := 95) rfl dX11_deeds_57 ?_ ?_
    · refine ts_iload rfl dX11_deeds_95 ?_
      exact td_iret rfl dX11_deeds_97
    · refine ts_aload rfl dX11_deeds_60 ?_
      refine td_getI tl_X11_134 rfl hv4.1 hv4.2.2.1 dX11_deeds_62 ?_
      refine td_if_ne (tgt := 95) rfl dX11_deeds_65 ?_ ?_
      · refine ts_aload_n (i := 0) rfl rfl dX11_deeds_68 ?_
        refine ts_aload rfl dX11_deeds_69 ?_
        refine ts_iload_n (i := 2) rfl rfl dX11_deeds_71 ?_
        refine ts_iconst rfl dX11_deeds_72 ?_
        refine ts_iload rfl dX11_deeds_73 ?_
        refine ts_imul dX11_deeds_75 ?_
        refine ts_iadd dX11_deeds_76 ?_
        refine tq_callV (y2 := mX11_addDeedFrom) [tv_R v4, tv_I (tv_w (v2 + (tv_w (3 * v6))))] [] 1 (st' := fun r1 => [tv_I r1]) tw_X11_addDeedFrom tx_X11_addDeedFrom tw_c11 ga_c_1 tl_X11_137 rfl rfl rfl rfl (fun _ => rfl) dX11_deeds_77 (S_X11_addDeedFrom l hE _ v4 (tv_w (v2 + (tv_w (3 * v6)))) hv4 D) (fun r1 D2 => ?_)
        refine td_if_ne (tgt := 86) rfl dX11_deeds_80 ?_ ?_
        · refine ts_goto (tgt := 95) rfl dX11_deeds_83 ?_
          refine ts_iload rfl dX11_deeds_95 ?_
          exact td_iret rfl dX11_deeds_97
        · refine tq_iinc [tv_R 1, tv_U, tv_I v2, tv_I v3, tv_R v4, tv_I (tv_w (v5 + 1)), tv_I v6] rfl rfl rfl dX11_deeds_86 ?_
          refine tq_iinc [tv_R 1, tv_U, tv_I v2, tv_I v3, tv_R v4, tv_I (tv_w (v5 + 1)), tv_I (tv_w (v6 + 1))] rfl rfl rfl dX11_deeds_89 ?_
          refine ts_goto (tgt := 54) rfl dX11_deeds_92 ?_
          exact ih v2 v3 v4 (tv_w (v5 + 1)) (tv_w (v6 + 1)) D2 hv4
      · refine ts_iload rfl dX11_deeds_95 ?_
        exact td_iret rfl dX11_deeds_97
def F_X11_deeds (a1 : Int) (a2 : Int) (a3 : Int) (D : td_D) : Option (Int × td_D) :=
  td_b (F_X11_isShelf a1 D) fun r3 D4 =>
  if r3 = 0 then
    some ((-1), D4)
  else
    if a3 < 1 then
      some ((-1), D4)
    else
      if a3 ≤ 10 then
        if 0 ≤ a1 ∧ a1 < ((6 : Nat) : Int) then
          if D4 (td_r g_c 46 (Int.toNat a1)) 0 = (-1) then
            F_X11_deeds_54 tf_N a2 a3 (td_r g_c 46 (Int.toNat a1)) 0 0 D4
          else
            if D4 (td_r g_c 46 (Int.toNat a1)) 0 = 0 then
              F_X11_deeds_54 tf_N a2 a3 (td_r g_c 46 (Int.toNat a1)) 0 0 D4
            else
              some ((-12), D4)
        else none
      else
        some ((-1), D4)
set_option maxHeartbeats 4000000 in
set_option maxRecDepth 20000 in
theorem S_X11_deeds (l : Launch) {E : tv_E} (hE : tv_hE E) (d : Nat) (a1 : Int) (a2 : Int) (a3 : Int) (D : td_D) : td_msim l E (d + 3) mX11_deeds g_c [tv_R 1, tv_I a1, tv_I a2, tv_I a3] D (F_X11_deeds a1 a2 a3 D) := by
  refine td_meetL (ls := [tv_R 1, tv_I a1, tv_I a2, tv_I a3, tv_U, tv_U, tv_U]) rfl (Nat.le_of_ble_eq_true rfl) rfl ?_
  unfold F_X11_deeds
  refine ts_iload_n (i := 1) rfl rfl dX11_deeds_0 ?_
  refine tq_callS (y2 := mX11_isShelf) [tv_I a1] [] (st' := fun r3 => [tv_I r3]) tw_X11_isShelf tx_X11_isShelf tl_X11_131 rfl rfl rfl rfl (fun _ => rfl) dX11_deeds_1 (S_X11_isShelf l hE _ a1 D) (fun r3 D4 => ?_)
  refine td_if_eq (tgt := 18) rfl dX11_deeds_4 ?_ ?_
  · refine ts_iconst rfl dX11_deeds_18 ?_
    exact td_iret rfl dX11_deeds_19
  · refine ts_iload_n (i := 3) rfl rfl dX11_deeds_7 ?_
    refine ts_iconst rfl dX11_deeds_8 ?_
    refine td_icmp_lt (tgt := 18) rfl dX11_deeds_9 ?_ ?_
    · refine ts_iconst rfl dX11_deeds_18 ?_
      exact td_iret rfl dX11_deeds_19
    · refine ts_iload_n (i := 3) rfl rfl dX11_deeds_12 ?_
      refine ts_bipush rfl dX11_deeds_13 ?_
      refine td_icmp_le (tgt := 20) rfl dX11_deeds_15 ?_ ?_
      · refine ts_aload_n (i := 0) rfl rfl dX11_deeds_20 ?_
        refine td_getR (q := 46) tl_X11_94 rfl ga_c_1 rfl dX11_deeds_21 ?_
        refine ts_iload_n (i := 1) rfl rfl dX11_deeds_24 ?_
        refine td_guard (fun h5 => ?_)
        refine td_aaldK ga_c_46 (by decide) h5 dX11_deeds_25 ?_
        refine tq_astore [tv_R 1, tv_I a1, tv_I a2, tv_I a3, tv_R (td_r g_c 46 (Int.toNat a1)), tv_U, tv_U] (Nat.le_of_ble_eq_true rfl) rfl (shelf_pos (is_shelf_of h5)) rfl dX11_deeds_26 ?_
        refine ts_aload rfl dX11_deeds_28 ?_
        refine td_getI tl_X11_134 rfl (is_shelf_of h5).1 (is_shelf_of h5).2.2.1 dX11_deeds_30 ?_
        refine ts_iconst rfl dX11_deeds_33 ?_
        refine td_icmp_eq (tgt := 48) rfl dX11_deeds_34 ?_ ?_
        · refine ts_iconst rfl dX11_deeds_48 ?_
          refine tq_istore [tv_R 1, tv_I a1, tv_I a2, tv_I a3, tv_R (td_r g_c 46 (Int.toNat a1)), tv_I 0, tv_U] (Nat.le_of_ble_eq_true rfl) rfl rfl dX11_deeds_49 ?_
          refine ts_iconst rfl dX11_deeds_51 ?_
          refine tq_istore [tv_R 1, tv_I a1, tv_I a2, tv_I a3, tv_R (td_r g_c 46 (Int.toNat a1)), tv_I 0, tv_I 0] (Nat.le_of_ble_eq_true rfl) rfl rfl dX11_deeds_52 ?_
          refine tv_weak (ls' := [tv_R 1, tv_U, tv_I a2, tv_I a3, tv_R (td_r g_c 46 (Int.toNat a1)), tv_I 0, tv_I 0]) ⟨Or.inr rfl, Or.inl rfl, Or.inr rfl, Or.inr rfl, Or.inr rfl, Or.inr rfl, Or.inr rfl, trivial⟩ ?_
          exact S_X11_deeds_54 hE d tf_N a2 a3 (td_r g_c 46 (Int.toNat a1)) 0 0 D4 (is_shelf_of h5)
        · refine ts_aload rfl dX11_deeds_37 ?_
          refine td_getI tl_X11_134 rfl (is_shelf_of h5).1 (is_shelf_of h5).2.2.1 dX11_deeds_39 ?_
          refine td_if_eq (tgt := 48) rfl dX11_deeds_42 ?_ ?_
          · refine ts_iconst rfl dX11_deeds_48 ?_
            refine tq_istore [tv_R 1, tv_I a1, tv_I a2, tv_I a3, tv_R (td_r g_c 46 (Int.toNat a1)), tv_I 0, tv_U] (Nat.le_of_ble_eq_true rfl) rfl rfl dX11_deeds_49 ?_
            refine ts_iconst rfl dX11_deeds_51 ?_
            refine tq_istore [tv_R 1, tv_I a1, tv_I a2, tv_I a3, tv_R (td_r g_c 46 (Int.toNat a1)), tv_I 0, tv_I 0] (Nat.le_of_ble_eq_true rfl) rfl rfl dX11_deeds_52 ?_
            refine tv_weak (ls' := [tv_R 1, tv_U, tv_I a2, tv_I a3, tv_R (td_r g_c 46 (Int.toNat a1)), tv_I 0, tv_I 0]) ⟨Or.inr rfl, Or.inl rfl, Or.inr rfl, Or.inr rfl, Or.inr rfl, Or.inr rfl, Or.inr rfl, trivial⟩ ?_
            exact S_X11_deeds_54 hE d tf_N a2 a3 (td_r g_c 46 (Int.toNat a1)) 0 0 D4 (is_shelf_of h5)
          · refine ts_bipush rfl dX11_deeds_45 ?_
            exact td_iret rfl dX11_deeds_47
      · refine ts_iconst rfl dX11_deeds_18 ?_
        exact td_iret rfl dX11_deeds_19
def F_X11_mend (a1 : Int) (a2 : Int) (a3 : Int) (D : td_D) : Option (Int × td_D) :=
  td_b (F_X3_numberOf a1 a2 D) fun r1 D2 =>
  if r1 = (-1) then
    some ((-1), D2)
  else
    td_b (F_X3_fits a1 a2 a3 D2) fun r3 D4 =>
    if r3 = 0 then
      some ((-1), D4)
    else
      if a3 = r1 then
        some (r1, D4)
      else
        td_b (F_X0_note a1 a2 r1 a3 D4) fun _ D6 =>
        td_b (F_X3_change a1 a2 a3 D6) fun _ D8 =>
        some (r1, D8)
set_option maxHeartbeats 4000000 in
set_option maxRecDepth 20000 in
theorem S_X11_mend (l : Launch) {E : tv_E} (hE : tv_hE E) (d : Nat) (a1 : Int) (a2 : Int) (a3 : Int) (D : td_D) : td_msim l E (d + 3) mX11_mend g_c [tv_R 1, tv_I a1, tv_I a2, tv_I a3] D (F_X11_mend a1 a2 a3 D) := by
  refine td_meetL (ls := [tv_R 1, tv_I a1, tv_I a2, tv_I a3, tv_U]) rfl (Nat.le_of_ble_eq_true rfl) rfl ?_
  unfold F_X11_mend
  refine ts_aload_n (i := 0) rfl rfl dX11_mend_0 ?_
  refine td_getR (q := 2) tl_X11_12 rfl ga_c_1 rfl dX11_mend_1 ?_
  refine ts_iload_n (i := 1) rfl rfl dX11_mend_4 ?_
  refine ts_iload_n (i := 2) rfl rfl dX11_mend_5 ?_
  refine tq_callV (y2 := mX3_numberOf) [tv_I a1, tv_I a2] [] 2 (st' := fun r1 => [tv_I r1]) tw_X3_numberOf tx_X3_numberOf tw_c3 ga_c_2 tl_X11_144 rfl rfl rfl rfl (fun _ => rfl) dX11_mend_6 (S_X3_numberOf l hE _ a1 a2 D) (fun r1 D2 => ?_)
  refine tq_istore [tv_R 1, tv_I a1, tv_I a2, tv_I a3, tv_I r1] (Nat.le_of_ble_eq_true rfl) rfl rfl dX11_mend_9 ?_
  refine ts_iload rfl dX11_mend_11 ?_
  refine ts_iconst rfl dX11_mend_13 ?_
  refine td_icmp_eq (tgt := 30) rfl dX11_mend_14 ?_ ?_
  · refine ts_iconst rfl dX11_mend_30 ?_
    exact td_iret rfl dX11_mend_31
  · refine ts_aload_n (i := 0) rfl rfl dX11_mend_17 ?_
    refine td_getR (q := 2) tl_X11_12 rfl ga_c_1 rfl dX11_mend_18 ?_
    refine ts_iload_n (i := 1) rfl rfl dX11_mend_21 ?_
    refine ts_iload_n (i := 2) rfl rfl dX11_mend_22 ?_
    refine ts_iload_n (i := 3) rfl rfl dX11_mend_23 ?_
    refine tq_callV (y2 := mX3_fits) [tv_I a1, tv_I a2, tv_I a3] [] 2 (st' := fun r3 => [tv_I r3]) tw_X3_fits tx_X3_fits tw_c3 ga_c_2 tl_X11_148 rfl rfl rfl rfl (fun _ => rfl) dX11_mend_24 (S_X3_fits l hE _ a1 a2 a3 D2) (fun r3 D4 => ?_)
    refine td_if_ne (tgt := 32) rfl dX11_mend_27 ?_ ?_
    · refine ts_iconst rfl dX11_mend_30 ?_
      exact td_iret rfl dX11_mend_31
    · refine ts_iload_n (i := 3) rfl rfl dX11_mend_32 ?_
      refine ts_iload rfl dX11_mend_33 ?_
      refine td_icmp_eq (tgt := 60) rfl dX11_mend_35 ?_ ?_
      · refine ts_iload rfl dX11_mend_60 ?_
        exact td_iret rfl dX11_mend_62
      · refine ts_aload_n (i := 0) rfl rfl dX11_mend_38 ?_
        refine td_getR (q := 32) tl_X11_71 rfl ga_c_1 rfl dX11_mend_39 ?_
        refine ts_iload_n (i := 1) rfl rfl dX11_mend_42 ?_
        refine ts_iload_n (i := 2) rfl rfl dX11_mend_43 ?_
        refine ts_iload rfl dX11_mend_44 ?_
        refine ts_iload_n (i := 3) rfl rfl dX11_mend_46 ?_
        refine tq_callV (y2 := mX0_note) [tv_I a1, tv_I a2, tv_I r1, tv_I a3] [] 32 (st' := fun _ => []) tw_X0_note tx_X0_note tw_c0 ga_c_32 tl_X11_151 rfl rfl rfl rfl (fun _ => rfl) dX11_mend_47 (S_X0_note l hE _ a1 a2 r1 a3 D4) (fun r5 D6 => ?_)
        refine ts_aload_n (i := 0) rfl rfl dX11_mend_50 ?_
        refine td_getR (q := 2) tl_X11_12 rfl ga_c_1 rfl dX11_mend_51 ?_
        refine ts_iload_n (i := 1) rfl rfl dX11_mend_54 ?_
        refine ts_iload_n (i := 2) rfl rfl dX11_mend_55 ?_
        refine ts_iload_n (i := 3) rfl rfl dX11_mend_56 ?_
        refine tq_callV (y2 := mX3_change) [tv_I a1, tv_I a2, tv_I a3] [] 2 (st' := fun _ => []) tw_X3_change tx_X3_change tw_c3 ga_c_2 tl_X11_155 rfl rfl rfl rfl (fun _ => rfl) dX11_mend_57 (S_X3_change l hE _ a1 a2 a3 D6) (fun r7 D8 => ?_)
        refine ts_iload rfl dX11_mend_60 ?_
        exact td_iret rfl dX11_mend_62
def F_X11_of (a1 : Int) (a2 : Int) (D : td_D) : Option (Int × td_D) :=
  td_b (F_X3_numberOf a1 a2 D) fun r1 D2 =>
  some (r1, D2)
set_option maxHeartbeats 4000000 in
set_option maxRecDepth 20000 in
theorem S_X11_of (l : Launch) {E : tv_E} (hE : tv_hE E) (d : Nat) (a1 : Int) (a2 : Int) (D : td_D) : td_msim l E (d + 3) mX11_of g_c [tv_R 1, tv_I a1, tv_I a2] D (F_X11_of a1 a2 D) := by
  refine td_meetL (ls := [tv_R 1, tv_I a1, tv_I a2]) rfl (Nat.le_of_ble_eq_true rfl) rfl ?_
  unfold F_X11_of
  refine ts_aload_n (i := 0) rfl rfl dX11_of_0 ?_
  refine td_getR (q := 2) tl_X11_12 rfl ga_c_1 rfl dX11_of_1 ?_
  refine ts_iload_n (i := 1) rfl rfl dX11_of_4 ?_
  refine ts_iload_n (i := 2) rfl rfl dX11_of_5 ?_
  refine tq_callV (y2 := mX3_numberOf) [tv_I a1, tv_I a2] [] 2 (st' := fun r1 => [tv_I r1]) tw_X3_numberOf tx_X3_numberOf tw_c3 ga_c_2 tl_X11_144 rfl rfl rfl rfl (fun _ => rfl) dX11_of_6 (S_X3_numberOf l hE _ a1 a2 D) (fun r1 D2 => ?_)
  exact td_iret rfl dX11_of_9
def F_X11_feed (a1 : Int) (D : td_D) : Option (Int × td_D) :=
  if a1 < 0 then
    some ((-1), D)
  else
    if a1 ≤ 255 then
      if D 10 1 < 120 then
        td_b (F_X9_add a1 D) fun r1 D2 =>
        some (r1, D2)
      else
        some ((-3), D)
    else
      some ((-1), D)
set_option maxHeartbeats 4000000 in
set_option maxRecDepth 20000 in
theorem S_X11_feed (l : Launch) {E : tv_E} (hE : tv_hE E) (d : Nat) (a1 : Int) (D : td_D) : td_msim l E (d + 1) mX11_feed g_c [tv_R 1, tv_I a1] D (F_X11_feed a1 D) := by
  refine td_meetL (ls := [tv_R 1, tv_I a1]) rfl (Nat.le_of_ble_eq_true rfl) rfl ?_
  unfold F_X11_feed
  refine ts_iload_n (i := 1) rfl rfl dX11_feed_0 ?_
  refine td_if_lt (tgt := 11) rfl dX11_feed_1 ?_ ?_
  · refine ts_iconst rfl dX11_feed_11 ?_
    exact td_iret rfl dX11_feed_12
  · refine ts_iload_n (i := 1) rfl rfl dX11_feed_4 ?_
    refine ts_sipush rfl dX11_feed_5 ?_
    refine td_icmp_le (tgt := 13) rfl dX11_feed_8 ?_ ?_
    · refine ts_aload_n (i := 0) rfl rfl dX11_feed_13 ?_
      refine td_getR (q := 10) tl_X11_19 rfl ga_c_1 rfl dX11_feed_14 ?_
      refine td_getI tl_X11_159 rfl ga_c_10 rfl dX11_feed_17 ?_
      refine ts_bipush rfl dX11_feed_20 ?_
      refine td_icmp_lt (tgt := 30) rfl dX11_feed_22 ?_ ?_
      · refine ts_aload_n (i := 0) rfl rfl dX11_feed_30 ?_
        refine td_getR (q := 10) tl_X11_19 rfl ga_c_1 rfl dX11_feed_31 ?_
        refine ts_iload_n (i := 1) rfl rfl dX11_feed_34 ?_
        refine tq_callV (y2 := mX9_add) [tv_I a1] [] 10 (st' := fun r1 => [tv_I r1]) tw_X9_add tx_X9_add tw_c9 ga_c_10 tl_X11_162 rfl rfl rfl rfl (fun _ => rfl) dX11_feed_35 (S_X9_add l hE _ a1 D) (fun r1 D2 => ?_)
        exact td_iret rfl dX11_feed_38
      · refine ts_bipush rfl dX11_feed_25 ?_
        refine ts_goto (tgt := 38) rfl dX11_feed_27 ?_
        exact td_iret rfl dX11_feed_38
    · refine ts_iconst rfl dX11_feed_11 ?_
      exact td_iret rfl dX11_feed_12
def F_X11_farOrNot (a1 : Int) (D : td_D) : Option (Int × td_D) :=
  td_b (F_X3_farOf a1 D) fun r1 D2 =>
  if 0 ≤ r1 then
    some (r1, D2)
  else
    some ((-2), D2)
set_option maxHeartbeats 4000000 in
set_option maxRecDepth 20000 in
theorem S_X11_farOrNot (l : Launch) {E : tv_E} (hE : tv_hE E) (d : Nat) (a1 : Int) (D : td_D) : td_msim l E (d + 1) mX11_farOrNot g_c [tv_R 1, tv_I a1] D (F_X11_farOrNot a1 D) := by
  refine td_meetL (ls := [tv_R 1, tv_I a1, tv_U]) rfl (Nat.le_of_ble_eq_true rfl) rfl ?_
  unfold F_X11_farOrNot
  refine ts_aload_n (i := 0) rfl rfl dX11_farOrNot_0 ?_
  refine td_getR (q := 2) tl_X11_12 rfl ga_c_1 rfl dX11_farOrNot_1 ?_
  refine ts_iload_n (i := 1) rfl rfl dX11_farOrNot_4 ?_
  refine tq_callV (y2 := mX3_farOf) [tv_I a1] [] 2 (st' := fun r1 => [tv_I r1]) tw_X3_farOf tx_X3_farOf tw_c3 ga_c_2 tl_X11_222 rfl rfl rfl rfl (fun _ => rfl) dX11_farOrNot_5 (S_X3_farOf l hE _ a1 D) (fun r1 D2 => ?_)
  refine tq_istore_n [tv_R 1, tv_I a1, tv_I r1] rfl (Nat.le_of_ble_eq_true rfl) rfl rfl dX11_farOrNot_8 ?_
  refine ts_iload_n (i := 2) rfl rfl dX11_farOrNot_9 ?_
  refine td_if_ge (tgt := 18) rfl dX11_farOrNot_10 ?_ ?_
  · refine ts_iload_n (i := 2) rfl rfl dX11_farOrNot_18 ?_
    exact td_iret rfl dX11_farOrNot_19
  · refine ts_bipush rfl dX11_farOrNot_13 ?_
    refine ts_goto (tgt := 19) rfl dX11_farOrNot_15 ?_
    exact td_iret rfl dX11_farOrNot_19
def F_X11_shareNextDay (a1 : Int) (D : td_D) : Option (Int × td_D) :=
  if D 1 2 = 12 ∨ D 1 2 = 16 then
    if D ((D 1 2).toNat) 3 ≤ 0 then
      if D 2 9 = 3 then
        some (tv_max 0 (tv_min 99 a1), D)
      else
        some (tv_max 0 (tv_min 99 (tv_w (a1 + (tv_div a1 10)))), D)
    else
      td_l (td_upd D 20 (Int.toNat 0) a1) fun D2 =>
      if D2 1 2 = 12 ∨ D2 1 2 = 16 then
        td_b (F_X1_workOut ((D2 1 2).toNat) D2) fun r4 D5 =>
        some (tv_max 0 (tv_min 99 r4), D5)
      else none
  else none
set_option maxHeartbeats 4000000 in
set_option maxRecDepth 20000 in
theorem S_X11_shareNextDay (l : Launch) {E : tv_E} (hE : tv_hE E) (d : Nat) (a1 : Int) (D : td_D) : td_msim l E (d + 3) mX11_shareNextDay g_c [tv_R 1, tv_I a1] D (F_X11_shareNextDay a1 D) := by
  refine td_meetL (ls := [tv_R 1, tv_I a1, tv_U]) rfl (Nat.le_of_ble_eq_true rfl) rfl ?_
  unfold F_X11_shareNextDay
  refine ts_iload_n (i := 1) rfl rfl dX11_shareNextDay_0 ?_
  refine tq_istore_n [tv_R 1, tv_I a1, tv_I a1] rfl (Nat.le_of_ble_eq_true rfl) rfl rfl dX11_shareNextDay_1 ?_
  refine ts_aload_n (i := 0) rfl rfl dX11_shareNextDay_2 ?_
  refine td_getV tl_X11_26 rfl ga_c_1 rfl dX11_shareNextDay_3 ?_
  refine td_guard (fun h1 => ?_)
  refine td_getI tl_X11_207 rfl (is_code_of h1).1 (is_code_of h1).2.2.2.2 dX11_shareNextDay_6 ?_
  refine td_if_le (tgt := 34) rfl dX11_shareNextDay_9 ?_ ?_
  · refine ts_aload_n (i := 0) rfl rfl dX11_shareNextDay_34 ?_
    refine td_getR (q := 2) tl_X11_12 rfl ga_c_1 rfl dX11_shareNextDay_35 ?_
    refine td_getI tl_X11_195 rfl ga_c_2 rfl dX11_shareNextDay_38 ?_
    refine ts_iconst rfl dX11_shareNextDay_41 ?_
    refine td_icmp_eq (tgt := 52) rfl dX11_shareNextDay_42 ?_ ?_
    · refine ts_iconst rfl dX11_shareNextDay_52 ?_
      refine ts_bipush rfl dX11_shareNextDay_53 ?_
      refine ts_iload_n (i := 2) rfl rfl dX11_shareNextDay_55 ?_
      refine ts_mmin rfl rfl tl_X11_214 dX11_shareNextDay_56 ?_
      refine ts_mmax rfl rfl tl_X11_219 dX11_shareNextDay_59 ?_
      exact td_iret rfl dX11_shareNextDay_62
    · refine ts_iload_n (i := 1) rfl rfl dX11_shareNextDay_45 ?_
      refine ts_iload_n (i := 1) rfl rfl dX11_shareNextDay_46 ?_
      refine ts_bipush rfl dX11_shareNextDay_47 ?_
      refine td_idivK (by decide) dX11_shareNextDay_49 ?_
      refine ts_iadd dX11_shareNextDay_50 ?_
      refine tq_istore_n [tv_R 1, tv_I a1, tv_I (tv_w (a1 + (tv_div a1 10)))] rfl (Nat.le_of_ble_eq_true rfl) rfl rfl dX11_shareNextDay_51 ?_
      refine ts_iconst rfl dX11_shareNextDay_52 ?_
      refine ts_bipush rfl dX11_shareNextDay_53 ?_
      refine ts_iload_n (i := 2) rfl rfl dX11_shareNextDay_55 ?_
      refine ts_mmin rfl rfl tl_X11_214 dX11_shareNextDay_56 ?_
      refine ts_mmax rfl rfl tl_X11_219 dX11_shareNextDay_59 ?_
      exact td_iret rfl dX11_shareNextDay_62
  · refine ts_aload_n (i := 0) rfl rfl dX11_shareNextDay_12 ?_
    refine td_getR (q := 20) tl_X11_33 rfl ga_c_1 rfl dX11_shareNextDay_13 ?_
    refine ts_iconst rfl dX11_shareNextDay_16 ?_
    refine ts_iload_n (i := 1) rfl rfl dX11_shareNextDay_17 ?_
    refine td_iastK ga_c_20 (gn_c_20 _) ⟨by decide, by decide⟩ dX11_shareNextDay_18 ?_
    refine td_let (fun D2 => ?_)
    refine ts_aload_n (i := 0) rfl rfl dX11_shareNextDay_19 ?_
    refine td_getV tl_X11_26 rfl ga_c_1 rfl dX11_shareNextDay_20 ?_
    refine td_guard (fun h3 => ?_)
    refine ts_aload_n (i := 0) rfl rfl dX11_shareNextDay_23 ?_
    refine td_getR (q := 20) tl_X11_33 rfl ga_c_1 rfl dX11_shareNextDay_24 ?_
    refine tq_callV (y2 := mX1_workOut) [tv_R 20] [] ((D2 1 2).toNat) (st' := fun r4 => [tv_I r4]) tw_X1_workOut tx_X1_workOut tw_c1 (is_code_of h3).1 tl_X11_210 rfl rfl rfl rfl (fun _ => rfl) dX11_shareNextDay_27 (S_X1_workOut l hE _ ((D2 1 2).toNat) (is_code_of h3) D2) (fun r4 D5 => ?_)
    refine tq_istore_n [tv_R 1, tv_I a1, tv_I r4] rfl (Nat.le_of_ble_eq_true rfl) rfl rfl dX11_shareNextDay_30 ?_
    refine ts_goto (tgt := 52) rfl dX11_shareNextDay_31 ?_
    refine ts_iconst rfl dX11_shareNextDay_52 ?_
    refine ts_bipush rfl dX11_shareNextDay_53 ?_
    refine ts_iload_n (i := 2) rfl rfl dX11_shareNextDay_55 ?_
    refine ts_mmin rfl rfl tl_X11_214 dX11_shareNextDay_56 ?_
    refine ts_mmax rfl rfl tl_X11_219 dX11_shareNextDay_59 ?_
    exact td_iret rfl dX11_shareNextDay_62
def F_X11_passDay_91 (k55 : Nat → Int → Int → Int → td_D → Option (Int × td_D)) (v1 : Nat) (v2 : Int) (v4 : Int) (v5 : Int) (v6 : Int) (s0 : Int) (D : td_D) : Option (Int × td_D) :=
  if s0 = v6 then
    k55 v1 v2 v4 (tv_w (v5 + 1)) D
  else
    td_b (F_X7_lay v1 v2 v5 s0 D) fun _ D2 =>
    k55 v1 v2 1 (tv_w (v5 + 1)) D2
set_option maxHeartbeats 4000000 in
set_option maxRecDepth 20000 in
theorem S_X11_passDay_91 {l : Launch} {E : tv_E} (hE : tv_hE E) (d : Nat) (k55 : Nat → Int → Int → Int → td_D → Option (Int × td_D)) (hk55 : ∀ (v1 : Nat) (v2 : Int) (v4 : Int) (v5 : Int) (D : td_D), tv_isStock v1 → td_sim l E (d + 4) mX11_passDay g_c 55 [tv_R 1, tv_R v1, tv_I v2, tv_U, tv_I v4, tv_I v5, tv_U, tv_U] [] D (k55 v1 v2 v4 v5 D)) (v1 : Nat) (v2 : Int) (v4 : Int) (v5 : Int) (v6 : Int) (s0 : Int) (hv1 : tv_isStock v1) (D : td_D) : td_sim l E (d + 4) mX11_passDay g_c 91 [tv_R 1, tv_R v1, tv_I v2, tv_U, tv_I v4, tv_I v5, tv_I v6, tv_U] [tv_I s0] D (F_X11_passDay_91 k55 v1 v2 v4 v5 v6 s0 D) := by
  unfold F_X11_passDay_91
  refine tq_istore [tv_R 1, tv_R v1, tv_I v2, tv_U, tv_I v4, tv_I v5, tv_I v6, tv_I s0] (Nat.le_of_ble_eq_true rfl) rfl rfl dX11_passDay_91 ?_
  refine ts_iload rfl dX11_passDay_93 ?_
  refine ts_iload rfl dX11_passDay_95 ?_
  refine td_icmp_eq (tgt := 112) rfl dX11_passDay_97 ?_ ?_
  · refine tq_iinc [tv_R 1, tv_R v1, tv_I v2, tv_U, tv_I v4, tv_I (tv_w (v5 + 1)), tv_I v6, tv_I s0] rfl rfl rfl dX11_passDay_112 ?_
    refine ts_goto (tgt := 55) rfl dX11_passDay_115 ?_
    refine tv_weak (ls' := [tv_R 1, tv_R v1, tv_I v2, tv_U, tv_I v4, tv_I (tv_w (v5 + 1)), tv_U, tv_U]) ⟨Or.inr rfl, Or.inr rfl, Or.inr rfl, Or.inl rfl, Or.inr rfl, Or.inr rfl, Or.inl rfl, Or.inl rfl, trivial⟩ ?_
    exact hk55 v1 v2 v4 (tv_w (v5 + 1)) D hv1
  · refine ts_aload_n (i := 1) rfl rfl dX11_passDay_100 ?_
    refine ts_iload_n (i := 2) rfl rfl dX11_passDay_101 ?_
    refine ts_iload rfl dX11_passDay_102 ?_
    refine ts_iload rfl dX11_passDay_104 ?_
    refine tq_callV (y2 := mX7_lay) [tv_I v2, tv_I v5, tv_I s0] [] v1 (st' := fun _ => []) tw_X7_lay tx_X7_lay tw_c7 hv1.1 tl_X11_204 rfl rfl rfl rfl (fun _ => rfl) dX11_passDay_106 (S_X7_lay l hE _ v1 v2 v5 s0 hv1 D) (fun r1 D2 => ?_)
    refine ts_iconst rfl dX11_passDay_109 ?_
    refine tq_istore [tv_R 1, tv_R v1, tv_I v2, tv_U, tv_I 1, tv_I v5, tv_I v6, tv_I s0] (Nat.le_of_ble_eq_true rfl) rfl rfl dX11_passDay_110 ?_
    refine tq_iinc [tv_R 1, tv_R v1, tv_I v2, tv_U, tv_I 1, tv_I (tv_w (v5 + 1)), tv_I v6, tv_I s0] rfl rfl rfl dX11_passDay_112 ?_
    refine ts_goto (tgt := 55) rfl dX11_passDay_115 ?_
    refine tv_weak (ls' := [tv_R 1, tv_R v1, tv_I v2, tv_U, tv_I 1, tv_I (tv_w (v5 + 1)), tv_U, tv_U]) ⟨Or.inr rfl, Or.inr rfl, Or.inr rfl, Or.inl rfl, Or.inr rfl, Or.inr rfl, Or.inl rfl, Or.inl rfl, trivial⟩ ?_
    exact hk55 v1 v2 1 (tv_w (v5 + 1)) D2 hv1
def F_X11_passDay_55 : Nat → Nat → Int → Int → Int → td_D → Option (Int × td_D)
  | 0, _, _, _, _, _ => none
  | n + 1, v1, v2, v4, v5, D =>
    if D 2 0 ≤ v5 then
      if v4 = 0 ∨ v4 = 1 then some (v4, D) else none
    else
      td_b (F_X7_share v1 v2 v5 D) fun r3 D4 =>
      if r3 = 0 then
        F_X11_passDay_91 (fun v1 v2 v4 v5 D => F_X11_passDay_55 n v1 v2 v4 v5 D) v1 v2 v4 v5 r3 0 D4
      else
        td_b (F_X11_shareNextDay r3 D4) fun r5 D6 =>
        F_X11_passDay_91 (fun v1 v2 v4 v5 D => F_X11_passDay_55 n v1 v2 v4 v5 D) v1 v2 v4 v5 r3 r5 D6
set_option maxHeartbeats 4000000 in
set_option maxRecDepth 20000 in
theorem S_X11_passDay_55 {l : Launch} {E : tv_E} (hE : tv_hE E) (d : Nat) : ∀ (n : Nat) (v1 : Nat) (v2 : Int) (v4 : Int) (v5 : Int) (D : td_D), tv_isStock v1 → td_sim l E (d + 4) mX11_passDay g_c 55 [tv_R 1, tv_R v1, tv_I v2, tv_U, tv_I v4, tv_I v5, tv_U, tv_U] [] D (F_X11_passDay_55 n v1 v2 v4 v5 D) := by
  intro n
  induction n with
  | zero => intros; exact tv_none
  | succ n ih =>
    intro v1 v2 v4 v5 D hv1
    show td_sim _ _ _ _ _ _ _ _ _ (F_X11_passDay_55 (n + 1) v1 v2 v4 v5 D)
    unfold F_X11_passDay_55
    refine ts_iload rfl dX11_passDay_55 ?_
    refine ts_aload_n (i := 0) rfl rfl dX11_passDay_57 ?_
    refine td_getR (q := 2) tl_X11_12 rfl ga_c_1 rfl dX11_passDay_58 ?_
    refine td_getI tl_X11_103 rfl ga_c_2 rfl dX11_passDay_61 ?_
    refine td_icmp_ge (tgt := 118) rfl dX11_passDay_64 ?_ ?_
    · refine ts_iload rfl dX11_passDay_118 ?_
      exact td_zret rfl dX11_passDay_120
    · refine ts_aload_n (i := 1) rfl rfl dX11_passDay_67 ?_
      refine ts_iload_n (i := 2) rfl rfl dX11_passDay_68 ?_
      refine ts_iload rfl dX11_passDay_69 ?_
      refine tq_callV (y2 := mX7_share) [tv_I v2, tv_I v5] [] v1 (st' := fun r3 => [tv_I r3]) tw_X7_share tx_X7_share tw_c7 hv1.1 tl_X11_192 rfl rfl rfl rfl (fun _ => rfl) dX11_passDay_71 (S_X7_share l hE _ v1 v2 v5 hv1 D) (fun r3 D4 => ?_)
      refine tq_istore [tv_R 1, tv_R v1, tv_I v2, tv_U, tv_I v4, tv_I v5, tv_I r3, tv_U] (Nat.le_of_ble_eq_true rfl) rfl rfl dX11_passDay_74 ?_
      refine ts_iload rfl dX11_passDay_76 ?_
      refine td_if_ne (tgt := 85) rfl dX11_passDay_78 ?_ ?_
      · refine ts_iconst rfl dX11_passDay_81 ?_
        refine ts_goto (tgt := 91) rfl dX11_passDay_82 ?_
        exact S_X11_passDay_91 hE d (fun v1 v2 v4 v5 D => F_X11_passDay_55 n v1 v2 v4 v5 D) (fun v1 v2 v4 v5 D hv1 => ih v1 v2 v4 v5 D hv1) v1 v2 v4 v5 r3 0 hv1 D4
      · refine ts_aload_n (i := 0) rfl rfl dX11_passDay_85 ?_
        refine ts_iload rfl dX11_passDay_86 ?_
        refine tq_callV (y2 := mX11_shareNextDay) [tv_I r3] [] 1 (st' := fun r5 => [tv_I r5]) tw_X11_shareNextDay tx_X11_shareNextDay tw_c11 ga_c_1 tl_X11_201 rfl rfl rfl rfl (fun _ => rfl) dX11_passDay_88 (S_X11_shareNextDay l hE _ r3 D4) (fun r5 D6 => ?_)
        exact S_X11_passDay_91 hE d (fun v1 v2 v4 v5 D => F_X11_passDay_55 n v1 v2 v4 v5 D) (fun v1 v2 v4 v5 D hv1 => ih v1 v2 v4 v5 D hv1) v1 v2 v4 v5 r3 r5 hv1 D6
def F_X11_passDay (p1 : Nat) (a2 : Int) (a3 : Int) (D : td_D) : Option (Int × td_D) :=
  td_b (F_X7_allIn p1 a2 D) fun r7 D8 =>
  td_l (td_upd D8 20 (Int.toNat 1) r7) fun D9 =>
  td_l (td_upd D9 20 (Int.toNat 2) (D9 2 9)) fun D10 =>
  td_b (F_X7_holders p1 a2 D10) fun r11 D12 =>
  td_l (td_upd D12 20 (Int.toNat 3) r11) fun D13 =>
  td_l (td_upd D13 20 (Int.toNat 4) a2) fun D14 =>
  td_l (td_upd D14 20 (Int.toNat 5) a3) fun D15 =>
  F_X11_passDay_55 tf_N p1 a2 0 0 D15
set_option maxHeartbeats 4000000 in
set_option maxRecDepth 20000 in
theorem S_X11_passDay (l : Launch) {E : tv_E} (hE : tv_hE E) (d : Nat) (p1 : Nat) (a2 : Int) (a3 : Int) (hp1 : tv_isStock p1) (D : td_D) : td_msim l E (d + 4) mX11_passDay g_c [tv_R 1, tv_R p1, tv_I a2, tv_I a3] D (F_X11_passDay p1 a2 a3 D) := by
  refine td_meetL (ls := [tv_R 1, tv_R p1, tv_I a2, tv_I a3, tv_U, tv_U, tv_U, tv_U]) rfl (Nat.le_of_ble_eq_true rfl) rfl ?_
  unfold F_X11_passDay
  refine ts_aload_n (i := 0) rfl rfl dX11_passDay_0 ?_
  refine td_getR (q := 20) tl_X11_33 rfl ga_c_1 rfl dX11_passDay_1 ?_
  refine ts_iconst rfl dX11_passDay_4 ?_
  refine ts_aload_n (i := 1) rfl rfl dX11_passDay_5 ?_
  refine ts_iload_n (i := 2) rfl rfl dX11_passDay_6 ?_
  refine tq_callV (y2 := mX7_allIn) [tv_I a2] [tv_I 1, tv_R 20] p1 (st' := fun r7 => [tv_I r7, tv_I 1, tv_R 20]) tw_X7_allIn tx_X7_allIn tw_c7 hp1.1 tl_X11_186 rfl rfl rfl rfl (fun _ => rfl) dX11_passDay_7 (S_X7_allIn l hE _ p1 a2 hp1 D) (fun r7 D8 => ?_)
  refine td_iastK ga_c_20 (gn_c_20 _) ⟨by decide, by decide⟩ dX11_passDay_10 ?_
  refine td_let (fun D9 => ?_)
  refine ts_aload_n (i := 0) rfl rfl dX11_passDay_11 ?_
  refine td_getR (q := 20) tl_X11_33 rfl ga_c_1 rfl dX11_passDay_12 ?_
  refine ts_iconst rfl dX11_passDay_15 ?_
  refine ts_aload_n (i := 0) rfl rfl dX11_passDay_16 ?_
  refine td_getR (q := 2) tl_X11_12 rfl ga_c_1 rfl dX11_passDay_17 ?_
  refine td_getI tl_X11_195 rfl ga_c_2 rfl dX11_passDay_20 ?_
  refine td_iastK ga_c_20 (gn_c_20 _) ⟨by decide, by decide⟩ dX11_passDay_23 ?_
  refine td_let (fun D10 => ?_)
  refine ts_aload_n (i := 0) rfl rfl dX11_passDay_24 ?_
  refine td_getR (q := 20) tl_X11_33 rfl ga_c_1 rfl dX11_passDay_25 ?_
  refine ts_iconst rfl dX11_passDay_28 ?_
  refine ts_aload_n (i := 1) rfl rfl dX11_passDay_29 ?_
  refine ts_iload_n (i := 2) rfl rfl dX11_passDay_30 ?_
  refine tq_callV (y2 := mX7_holders) [tv_I a2] [tv_I 3, tv_R 20] p1 (st' := fun r11 => [tv_I r11, tv_I 3, tv_R 20]) tw_X7_holders tx_X7_holders tw_c7 hp1.1 tl_X11_198 rfl rfl rfl rfl (fun _ => rfl) dX11_passDay_31 (S_X7_holders l hE _ p1 a2 hp1 D10) (fun r11 D12 => ?_)
  refine td_iastK ga_c_20 (gn_c_20 _) ⟨by decide, by decide⟩ dX11_passDay_34 ?_
  refine td_let (fun D13 => ?_)
  refine ts_aload_n (i := 0) rfl rfl dX11_passDay_35 ?_
  refine td_getR (q := 20) tl_X11_33 rfl ga_c_1 rfl dX11_passDay_36 ?_
  refine ts_iconst rfl dX11_passDay_39 ?_
  refine ts_iload_n (i := 2) rfl rfl dX11_passDay_40 ?_
  refine td_iastK ga_c_20 (gn_c_20 _) ⟨by decide, by decide⟩ dX11_passDay_41 ?_
  refine td_let (fun D14 => ?_)
  refine ts_aload_n (i := 0) rfl rfl dX11_passDay_42 ?_
  refine td_getR (q := 20) tl_X11_33 rfl ga_c_1 rfl dX11_passDay_43 ?_
  refine ts_iconst rfl dX11_passDay_46 ?_
  refine ts_iload_n (i := 3) rfl rfl dX11_passDay_47 ?_
  refine td_iastK ga_c_20 (gn_c_20 _) ⟨by decide, by decide⟩ dX11_passDay_48 ?_
  refine td_let (fun D15 => ?_)
  refine ts_iconst rfl dX11_passDay_49 ?_
  refine tq_istore [tv_R 1, tv_R p1, tv_I a2, tv_I a3, tv_I 0, tv_U, tv_U, tv_U] (Nat.le_of_ble_eq_true rfl) rfl rfl dX11_passDay_50 ?_
  refine ts_iconst rfl dX11_passDay_52 ?_
  refine tq_istore [tv_R 1, tv_R p1, tv_I a2, tv_I a3, tv_I 0, tv_I 0, tv_U, tv_U] (Nat.le_of_ble_eq_true rfl) rfl rfl dX11_passDay_53 ?_
  refine tv_weak (ls' := [tv_R 1, tv_R p1, tv_I a2, tv_U, tv_I 0, tv_I 0, tv_U, tv_U]) ⟨Or.inr rfl, Or.inr rfl, Or.inr rfl, Or.inl rfl, Or.inr rfl, Or.inr rfl, Or.inl rfl, Or.inl rfl, trivial⟩ ?_
  exact S_X11_passDay_55 hE d tf_N p1 a2 0 0 D15 hp1
def F_X11_later_83 : Nat → Int → Int → Int → Int → td_D → Option (Int × td_D)
  | 0, _, _, _, _, _ => none
  | n + 1, v2, v3, v4, v5, D =>
    if v2 ≤ v5 then
      if v4 = 9 then
        td_b (F_X7_allIn 21 v3 D) fun r1 D2 =>
        some (r1, D2)
      else
        if v4 = 8 then
          td_b (F_X7_allIn 21 v3 D) fun r3 D4 =>
          td_b (F_X11_farOrNot r3 D4) fun r5 D6 =>
          some (r5, D6)
        else
          td_b (F_X7_share 21 v3 v4 D) fun r7 D8 =>
          some (r7, D8)
    else
      td_b (F_X11_passDay 21 v3 v5 D) fun r9 D10 =>
      F_X11_later_83 n v2 v3 v4 (tv_w (v5 + 1)) D10
set_option maxHeartbeats 4000000 in
set_option maxRecDepth 20000 in
theorem S_X11_later_83 {l : Launch} {E : tv_E} (hE : tv_hE E) (d : Nat) : ∀ (n : Nat) (v2 : Int) (v3 : Int) (v4 : Int) (v5 : Int) (D : td_D), td_sim l E (d + 5) mX11_later g_c 83 [tv_R 1, tv_U, tv_I v2, tv_I v3, tv_I v4, tv_I v5] [] D (F_X11_later_83 n v2 v3 v4 v5 D) := by
  intro n
  induction n with
  | zero => intros; exact tv_none
  | succ n ih =>
    intro v2 v3 v4 v5 D
    show td_sim _ _ _ _ _ _ _ _ _ (F_X11_later_83 (n + 1) v2 v3 v4 v5 D)
    unfold F_X11_later_83
    refine ts_iload rfl dX11_later_83 ?_
    refine ts_iload_n (i := 2) rfl rfl dX11_later_85 ?_
    refine td_icmp_ge (tgt := 107) rfl dX11_later_86 ?_ ?_
    · refine ts_iload rfl dX11_later_107 ?_
      refine ts_bipush rfl dX11_later_109 ?_
      refine td_icmp_ne (tgt := 123) rfl dX11_later_111 ?_ ?_
      · refine ts_aload_n (i := 0) rfl rfl dX11_later_114 ?_
        refine td_getR (q := 21) tl_X11_40 rfl ga_c_1 rfl dX11_later_115 ?_
        refine ts_iload_n (i := 3) rfl rfl dX11_later_118 ?_
        refine tq_callV (y2 := mX7_allIn) [tv_I v3] [] 21 (st' := fun r1 => [tv_I r1]) tw_X7_allIn tx_X7_allIn tw_c7 ga_c_21 tl_X11_186 rfl rfl rfl rfl (fun _ => rfl) dX11_later_119 (S_X7_allIn l hE _ 21 v3 is_stock_21 D) (fun r1 D2 => ?_)
        exact td_iret rfl dX11_later_122
      · refine ts_iload rfl dX11_later_123 ?_
        refine ts_bipush rfl dX11_later_125 ?_
        refine td_icmp_ne (tgt := 143) rfl dX11_later_127 ?_ ?_
        · refine ts_aload_n (i := 0) rfl rfl dX11_later_130 ?_
          refine ts_aload_n (i := 0) rfl rfl dX11_later_131 ?_
          refine td_getR (q := 21) tl_X11_40 rfl ga_c_1 rfl dX11_later_132 ?_
          refine ts_iload_n (i := 3) rfl rfl dX11_later_135 ?_
          refine tq_callV (y2 := mX7_allIn) [tv_I v3] [tv_R 1] 21 (st' := fun r3 => [tv_I r3, tv_R 1]) tw_X7_allIn tx_X7_allIn tw_c7 ga_c_21 tl_X11_186 rfl rfl rfl rfl (fun _ => rfl) dX11_later_136 (S_X7_allIn l hE _ 21 v3 is_stock_21 D) (fun r3 D4 => ?_)
          refine tq_callV (y2 := mX11_farOrNot) [tv_I r3] [] 1 (st' := fun r5 => [tv_I r5]) tw_X11_farOrNot tx_X11_farOrNot tw_c11 ga_c_1 tl_X11_189 rfl rfl rfl rfl (fun _ => rfl) dX11_later_139 (S_X11_farOrNot l hE _ r3 D4) (fun r5 D6 => ?_)
          exact td_iret rfl dX11_later_142
        · refine ts_aload_n (i := 0) rfl rfl dX11_later_143 ?_
          refine td_getR (q := 21) tl_X11_40 rfl ga_c_1 rfl dX11_later_144 ?_
          refine ts_iload_n (i := 3) rfl rfl dX11_later_147 ?_
          refine ts_iload rfl dX11_later_148 ?_
          refine tq_callV (y2 := mX7_share) [tv_I v3, tv_I v4] [] 21 (st' := fun r7 => [tv_I r7]) tw_X7_share tx_X7_share tw_c7 ga_c_21 tl_X11_192 rfl rfl rfl rfl (fun _ => rfl) dX11_later_150 (S_X7_share l hE _ 21 v3 v4 is_stock_21 D) (fun r7 D8 => ?_)
          exact td_iret rfl dX11_later_153
    · refine ts_aload_n (i := 0) rfl rfl dX11_later_89 ?_
      refine ts_aload_n (i := 0) rfl rfl dX11_later_90 ?_
      refine td_getR (q := 21) tl_X11_40 rfl ga_c_1 rfl dX11_later_91 ?_
      refine ts_iload_n (i := 3) rfl rfl dX11_later_94 ?_
      refine ts_iload rfl dX11_later_95 ?_
      refine tq_callV (y2 := mX11_passDay) [tv_R 21, tv_I v3, tv_I v5] [] 1 (st' := fun r9 => [tv_I r9]) tw_X11_passDay tx_X11_passDay tw_c11 ga_c_1 tl_X11_182 rfl rfl rfl rfl (fun _ => rfl) dX11_later_97 (S_X11_passDay l hE _ 21 v3 v5 is_stock_21 D) (fun r9 D10 => ?_)
      refine ts_popI dX11_later_100 ?_
      refine tq_iinc [tv_R 1, tv_U, tv_I v2, tv_I v3, tv_I v4, tv_I (tv_w (v5 + 1))] rfl rfl rfl dX11_later_101 ?_
      refine ts_goto (tgt := 83) rfl dX11_later_104 ?_
      exact ih v2 v3 v4 (tv_w (v5 + 1)) D10
def F_X11_later_66 (v2 : Int) (v3 : Int) (v4 : Int) (D : td_D) : Option (Int × td_D) :=
  td_b (F_X7_copyFrom 21 5 D) fun _ D12 =>
  F_X11_later_83 tf_N v2 v3 v4 0 D12
set_option maxHeartbeats 4000000 in
set_option maxRecDepth 20000 in
theorem S_X11_later_66 {l : Launch} {E : tv_E} (hE : tv_hE E) (d : Nat) (v2 : Int) (v3 : Int) (v4 : Int) (D : td_D) : td_sim l E (d + 5) mX11_later g_c 66 [tv_R 1, tv_U, tv_I v2, tv_I v3, tv_I v4, tv_U] [] D (F_X11_later_66 v2 v3 v4 D) := by
  unfold F_X11_later_66
  refine ts_aload_n (i := 0) rfl rfl dX11_later_66 ?_
  refine td_getR (q := 21) tl_X11_40 rfl ga_c_1 rfl dX11_later_67 ?_
  refine ts_aload_n (i := 0) rfl rfl dX11_later_70 ?_
  refine td_getR (q := 2) tl_X11_12 rfl ga_c_1 rfl dX11_later_71 ?_
  refine td_getR (q := 5) tl_X11_175 rfl ga_c_2 rfl dX11_later_74 ?_
  refine tq_callV (y2 := mX7_copyFrom) [tv_R 5] [] 21 (st' := fun _ => []) tw_X7_copyFrom tx_X7_copyFrom tw_c7 ga_c_21 tl_X11_178 rfl rfl rfl rfl (fun _ => rfl) dX11_later_77 (S_X7_copyFrom l hE _ 21 5 is_stock_21 is_stock_5 D) (fun r11 D12 => ?_)
  refine ts_iconst rfl dX11_later_80 ?_
  refine tq_istore [tv_R 1, tv_U, tv_I v2, tv_I v3, tv_I v4, tv_I 0] (Nat.le_of_ble_eq_true rfl) rfl rfl dX11_later_81 ?_
  exact S_X11_later_83 hE d tf_N v2 v3 v4 0 D12
def F_X11_later (a1 : Int) (a2 : Int) (D : td_D) : Option (Int × td_D) :=
  if a1 < 0 then
    some ((-1), D)
  else
    td_b (F_X3_isHive (tv_div a1 10) D) fun r13 D14 =>
    if r13 = 0 then
      some ((-1), D14)
    else
      if a2 < 0 then
        some ((-1), D14)
      else
        if a2 ≤ 60 then
          if tv_rem a1 10 = 8 then
            F_X11_later_66 a2 (tv_div a1 10) (tv_rem a1 10) D14
          else
            if tv_rem a1 10 = 9 then
              F_X11_later_66 a2 (tv_div a1 10) (tv_rem a1 10) D14
            else
              td_b (F_X3_isPerson (tv_rem a1 10) D14) fun r15 D16 =>
              if r15 = 0 then
                some ((-1), D16)
              else
                F_X11_later_66 a2 (tv_div a1 10) (tv_rem a1 10) D16
        else
          some ((-1), D14)
set_option maxHeartbeats 4000000 in
set_option maxRecDepth 20000 in
theorem S_X11_later (l : Launch) {E : tv_E} (hE : tv_hE E) (d : Nat) (a1 : Int) (a2 : Int) (D : td_D) : td_msim l E (d + 5) mX11_later g_c [tv_R 1, tv_I a1, tv_I a2] D (F_X11_later a1 a2 D) := by
  refine td_meetL (ls := [tv_R 1, tv_I a1, tv_I a2, tv_U, tv_U, tv_U]) rfl (Nat.le_of_ble_eq_true rfl) rfl ?_
  unfold F_X11_later
  refine ts_iload_n (i := 1) rfl rfl dX11_later_0 ?_
  refine ts_bipush rfl dX11_later_1 ?_
  refine td_idivK (by decide) dX11_later_3 ?_
  refine tq_istore_n [tv_R 1, tv_I a1, tv_I a2, tv_I (tv_div a1 10), tv_U, tv_U] rfl (Nat.le_of_ble_eq_true rfl) rfl rfl dX11_later_4 ?_
  refine ts_iload_n (i := 1) rfl rfl dX11_later_5 ?_
  refine ts_bipush rfl dX11_later_6 ?_
  refine td_iremK (by decide) dX11_later_8 ?_
  refine tq_istore [tv_R 1, tv_I a1, tv_I a2, tv_I (tv_div a1 10), tv_I (tv_rem a1 10), tv_U] (Nat.le_of_ble_eq_true rfl) rfl rfl dX11_later_9 ?_
  refine ts_iload_n (i := 1) rfl rfl dX11_later_11 ?_
  refine td_if_lt (tgt := 36) rfl dX11_later_12 ?_ ?_
  · refine ts_iconst rfl dX11_later_36 ?_
    exact td_iret rfl dX11_later_37
  · refine ts_aload_n (i := 0) rfl rfl dX11_later_15 ?_
    refine td_getR (q := 2) tl_X11_12 rfl ga_c_1 rfl dX11_later_16 ?_
    refine ts_iload_n (i := 3) rfl rfl dX11_later_19 ?_
    refine tq_callV (y2 := mX3_isHive) [tv_I (tv_div a1 10)] [] 2 (st' := fun r13 => [tv_I r13]) tw_X3_isHive tx_X3_isHive tw_c3 ga_c_2 tl_X11_169 rfl rfl rfl rfl (fun _ => rfl) dX11_later_20 (S_X3_isHive l hE _ (tv_div a1 10) D) (fun r13 D14 => ?_)
    refine td_if_eq (tgt := 36) rfl dX11_later_23 ?_ ?_
    · refine ts_iconst rfl dX11_later_36 ?_
      exact td_iret rfl dX11_later_37
    · refine ts_iload_n (i := 2) rfl rfl dX11_later_26 ?_
      refine td_if_lt (tgt := 36) rfl dX11_later_27 ?_ ?_
      · refine ts_iconst rfl dX11_later_36 ?_
        exact td_iret rfl dX11_later_37
      · refine ts_iload_n (i := 2) rfl rfl dX11_later_30 ?_
        refine ts_bipush rfl dX11_later_31 ?_
        refine td_icmp_le (tgt := 38) rfl dX11_later_33 ?_ ?_
        · refine ts_iload rfl dX11_later_38 ?_
          refine ts_bipush rfl dX11_later_40 ?_
          refine td_icmp_eq (tgt := 66) rfl dX11_later_42 ?_ ?_
          · refine tv_weak (ls' := [tv_R 1, tv_U, tv_I a2, tv_I (tv_div a1 10), tv_I (tv_rem a1 10), tv_U]) ⟨Or.inr rfl, Or.inl rfl, Or.inr rfl, Or.inr rfl, Or.inr rfl, Or.inl rfl, trivial⟩ ?_
            exact S_X11_later_66 hE d a2 (tv_div a1 10) (tv_rem a1 10) D14
          · refine ts_iload rfl dX11_later_45 ?_
            refine ts_bipush rfl dX11_later_47 ?_
            refine td_icmp_eq (tgt := 66) rfl dX11_later_49 ?_ ?_
            · refine tv_weak (ls' := [tv_R 1, tv_U, tv_I a2, tv_I (tv_div a1 10), tv_I (tv_rem a1 10), tv_U]) ⟨Or.inr rfl, Or.inl rfl, Or.inr rfl, Or.inr rfl, Or.inr rfl, Or.inl rfl, trivial⟩ ?_
              exact S_X11_later_66 hE d a2 (tv_div a1 10) (tv_rem a1 10) D14
            · refine ts_aload_n (i := 0) rfl rfl dX11_later_52 ?_
              refine td_getR (q := 2) tl_X11_12 rfl ga_c_1 rfl dX11_later_53 ?_
              refine ts_iload rfl dX11_later_56 ?_
              refine tq_callV (y2 := mX3_isPerson) [tv_I (tv_rem a1 10)] [] 2 (st' := fun r15 => [tv_I r15]) tw_X3_isPerson tx_X3_isPerson tw_c3 ga_c_2 tl_X11_172 rfl rfl rfl rfl (fun _ => rfl) dX11_later_58 (S_X3_isPerson l hE _ (tv_rem a1 10) D14) (fun r15 D16 => ?_)
              refine td_if_ne (tgt := 66) rfl dX11_later_61 ?_ ?_
              · refine ts_iconst rfl dX11_later_64 ?_
                exact td_iret rfl dX11_later_65
              · refine tv_weak (ls' := [tv_R 1, tv_U, tv_I a2, tv_I (tv_div a1 10), tv_I (tv_rem a1 10), tv_U]) ⟨Or.inr rfl, Or.inl rfl, Or.inr rfl, Or.inr rfl, Or.inr rfl, Or.inl rfl, trivial⟩ ?_
                exact S_X11_later_66 hE d a2 (tv_div a1 10) (tv_rem a1 10) D16
        · refine ts_iconst rfl dX11_later_36 ?_
          exact td_iret rfl dX11_later_37
def F_X11_still_29 : Nat → Int → Int → td_D → Option (Int × td_D)
  | 0, _, _, _ => none
  | n + 1, v1, v2, D =>
    if 99 < v2 then
      some ((-2), D)
    else
      td_b (F_X11_passDay 21 v1 v2 D) fun r1 D2 =>
      if r1 = 0 then
        some (v2, D2)
      else
        F_X11_still_29 n v1 (tv_w (v2 + 1)) D2
set_option maxHeartbeats 4000000 in
set_option maxRecDepth 20000 in
theorem S_X11_still_29 {l : Launch} {E : tv_E} (hE : tv_hE E) (d : Nat) : ∀ (n : Nat) (v1 : Int) (v2 : Int) (D : td_D), td_sim l E (d + 5) mX11_still g_c 29 [tv_R 1, tv_I v1, tv_I v2] [] D (F_X11_still_29 n v1 v2 D) := by
  intro n
  induction n with
  | zero => intros; exact tv_none
  | succ n ih =>
    intro v1 v2 D
    show td_sim _ _ _ _ _ _ _ _ _ (F_X11_still_29 (n + 1) v1 v2 D)
    unfold F_X11_still_29
    refine ts_iload_n (i := 2) rfl rfl dX11_still_29 ?_
    refine ts_bipush rfl dX11_still_30 ?_
    refine td_icmp_gt (tgt := 56) rfl dX11_still_32 ?_ ?_
    · refine ts_bipush rfl dX11_still_56 ?_
      exact td_iret rfl dX11_still_58
    · refine ts_aload_n (i := 0) rfl rfl dX11_still_35 ?_
      refine ts_aload_n (i := 0) rfl rfl dX11_still_36 ?_
      refine td_getR (q := 21) tl_X11_40 rfl ga_c_1 rfl dX11_still_37 ?_
      refine ts_iload_n (i := 1) rfl rfl dX11_still_40 ?_
      refine ts_iload_n (i := 2) rfl rfl dX11_still_41 ?_
      refine tq_callV (y2 := mX11_passDay) [tv_R 21, tv_I v1, tv_I v2] [] 1 (st' := fun r1 => [tv_I r1]) tw_X11_passDay tx_X11_passDay tw_c11 ga_c_1 tl_X11_182 rfl rfl rfl rfl (fun _ => rfl) dX11_still_42 (S_X11_passDay l hE _ 21 v1 v2 is_stock_21 D) (fun r1 D2 => ?_)
      refine td_if_ne (tgt := 50) rfl dX11_still_45 ?_ ?_
      · refine ts_iload_n (i := 2) rfl rfl dX11_still_48 ?_
        exact td_iret rfl dX11_still_49
      · refine tq_iinc [tv_R 1, tv_I v1, tv_I (tv_w (v2 + 1))] rfl rfl rfl dX11_still_50 ?_
        refine ts_goto (tgt := 29) rfl dX11_still_53 ?_
        exact ih v1 (tv_w (v2 + 1)) D2
def F_X11_still (a1 : Int) (D : td_D) : Option (Int × td_D) :=
  td_b (F_X3_isHive a1 D) fun r3 D4 =>
  if r3 = 0 then
    some ((-1), D4)
  else
    td_b (F_X7_copyFrom 21 5 D4) fun _ D6 =>
    F_X11_still_29 tf_N a1 0 D6
set_option maxHeartbeats 4000000 in
set_option maxRecDepth 20000 in
theorem S_X11_still (l : Launch) {E : tv_E} (hE : tv_hE E) (d : Nat) (a1 : Int) (D : td_D) : td_msim l E (d + 5) mX11_still g_c [tv_R 1, tv_I a1] D (F_X11_still a1 D) := by
  refine td_meetL (ls := [tv_R 1, tv_I a1, tv_U]) rfl (Nat.le_of_ble_eq_true rfl) rfl ?_
  unfold F_X11_still
  refine ts_aload_n (i := 0) rfl rfl dX11_still_0 ?_
  refine td_getR (q := 2) tl_X11_12 rfl ga_c_1 rfl dX11_still_1 ?_
  refine ts_iload_n (i := 1) rfl rfl dX11_still_4 ?_
  refine tq_callV (y2 := mX3_isHive) [tv_I a1] [] 2 (st' := fun r3 => [tv_I r3]) tw_X3_isHive tx_X3_isHive tw_c3 ga_c_2 tl_X11_169 rfl rfl rfl rfl (fun _ => rfl) dX11_still_5 (S_X3_isHive l hE _ a1 D) (fun r3 D4 => ?_)
  refine td_if_ne (tgt := 13) rfl dX11_still_8 ?_ ?_
  · refine ts_iconst rfl dX11_still_11 ?_
    exact td_iret rfl dX11_still_12
  · refine ts_aload_n (i := 0) rfl rfl dX11_still_13 ?_
    refine td_getR (q := 21) tl_X11_40 rfl ga_c_1 rfl dX11_still_14 ?_
    refine ts_aload_n (i := 0) rfl rfl dX11_still_17 ?_
    refine td_getR (q := 2) tl_X11_12 rfl ga_c_1 rfl dX11_still_18 ?_
    refine td_getR (q := 5) tl_X11_175 rfl ga_c_2 rfl dX11_still_21 ?_
    refine tq_callV (y2 := mX7_copyFrom) [tv_R 5] [] 21 (st' := fun _ => []) tw_X7_copyFrom tx_X7_copyFrom tw_c7 ga_c_21 tl_X11_178 rfl rfl rfl rfl (fun _ => rfl) dX11_still_24 (S_X7_copyFrom l hE _ 21 5 is_stock_21 is_stock_5 D4) (fun r5 D6 => ?_)
    refine ts_iconst rfl dX11_still_27 ?_
    refine tq_istore_n [tv_R 1, tv_I a1, tv_I 0] rfl (Nat.le_of_ble_eq_true rfl) rfl rfl dX11_still_28 ?_
    exact S_X11_still_29 hE d tf_N a1 0 D6
def F_X11_can_65 : Nat → Int → Int → Int → Int → td_D → Option (Int × td_D)
  | 0, _, _, _, _, _ => none
  | n + 1, v3, v4, v5, v6, D =>
    if D 2 2 ≤ v6 then
      some (v5, D)
    else
      if 0 ≤ v6 ∧ v6 < ((10 : Nat) : Int) then
        if v4 < D 7 (Int.toNat v6) then
          F_X11_can_65 n v3 v4 v5 (tv_w (v6 + 1)) D
        else
          if D 8 (Int.toNat v6) < v3 then
            F_X11_can_65 n v3 v4 v5 (tv_w (v6 + 1)) D
          else
            F_X11_can_65 n v3 v4 (tv_or v5 (tv_shl 1 v6)) (tv_w (v6 + 1)) D
      else none
set_option maxHeartbeats 4000000 in
set_option maxRecDepth 20000 in
theorem S_X11_can_65 {l : Launch} {E : tv_E} (hE : tv_hE E) (d : Nat) : ∀ (n : Nat) (v3 : Int) (v4 : Int) (v5 : Int) (v6 : Int) (D : td_D), td_sim l E (d + 2) mX11_can g_c 65 [tv_R 1, tv_U, tv_U, tv_I v3, tv_I v4, tv_I v5, tv_I v6] [] D (F_X11_can_65 n v3 v4 v5 v6 D) := by
  intro n
  induction n with
  | zero => intros; exact tv_none
  | succ n ih =>
    intro v3 v4 v5 v6 D
    show td_sim _ _ _ _ _ _ _ _ _ (F_X11_can_65 (n + 1) v3 v4 v5 v6 D)
    unfold F_X11_can_65
    refine ts_iload rfl dX11_can_65 ?_
    refine ts_aload_n (i := 0) rfl rfl dX11_can_67 ?_
    refine td_getR (q := 2) tl_X11_12 rfl ga_c_1 rfl dX11_can_68 ?_
    refine td_getI tl_X11_124 rfl ga_c_2 rfl dX11_can_71 ?_
    refine td_icmp_ge (tgt := 121) rfl dX11_can_74 ?_ ?_
    · refine ts_iload rfl dX11_can_121 ?_
      exact td_iret rfl dX11_can_123
    · refine ts_aload_n (i := 0) rfl rfl dX11_can_77 ?_
      refine td_getR (q := 2) tl_X11_12 rfl ga_c_1 rfl dX11_can_78 ?_
      refine td_getR (q := 7) tl_X11_234 rfl ga_c_2 rfl dX11_can_81 ?_
      refine ts_iload rfl dX11_can_84 ?_
      refine td_guard (fun h1 => ?_)
      refine td_ialdK ga_c_7 (gn_c_7 _) h1 dX11_can_86 ?_
      refine ts_iload rfl dX11_can_87 ?_
      refine td_icmp_gt (tgt := 115) rfl dX11_can_89 ?_ ?_
      · refine tq_iinc [tv_R 1, tv_U, tv_U, tv_I v3, tv_I v4, tv_I v5, tv_I (tv_w (v6 + 1))] rfl rfl rfl dX11_can_115 ?_
        refine ts_goto (tgt := 65) rfl dX11_can_118 ?_
        exact ih v3 v4 v5 (tv_w (v6 + 1)) D
      · refine ts_aload_n (i := 0) rfl rfl dX11_can_92 ?_
        refine td_getR (q := 2) tl_X11_12 rfl ga_c_1 rfl dX11_can_93 ?_
        refine td_getR (q := 8) tl_X11_237 rfl ga_c_2 rfl dX11_can_96 ?_
        refine ts_iload rfl dX11_can_99 ?_
        refine td_ialdK ga_c_8 (gn_c_8 _) h1 dX11_can_101 ?_
        refine ts_iload_n (i := 3) rfl rfl dX11_can_102 ?_
        refine td_icmp_lt (tgt := 115) rfl dX11_can_103 ?_ ?_
        · refine tq_iinc [tv_R 1, tv_U, tv_U, tv_I v3, tv_I v4, tv_I v5, tv_I (tv_w (v6 + 1))] rfl rfl rfl dX11_can_115 ?_
          refine ts_goto (tgt := 65) rfl dX11_can_118 ?_
          exact ih v3 v4 v5 (tv_w (v6 + 1)) D
        · refine ts_iload rfl dX11_can_106 ?_
          refine ts_iconst rfl dX11_can_108 ?_
          refine ts_iload rfl dX11_can_109 ?_
          refine ts_ishl dX11_can_111 ?_
          refine ts_ior dX11_can_112 ?_
          refine tq_istore [tv_R 1, tv_U, tv_U, tv_I v3, tv_I v4, tv_I (tv_or v5 (tv_shl 1 v6)), tv_I v6] (Nat.le_of_ble_eq_true rfl) rfl rfl dX11_can_113 ?_
          refine tq_iinc [tv_R 1, tv_U, tv_U, tv_I v3, tv_I v4, tv_I (tv_or v5 (tv_shl 1 v6)), tv_I (tv_w (v6 + 1))] rfl rfl rfl dX11_can_115 ?_
          refine ts_goto (tgt := 65) rfl dX11_can_118 ?_
          exact ih v3 v4 (tv_or v5 (tv_shl 1 v6)) (tv_w (v6 + 1)) D
def F_X11_can (a1 : Int) (a2 : Int) (D : td_D) : Option (Int × td_D) :=
  td_b (F_X3_isPerson a1 D) fun r2 D3 =>
  if r2 = 0 then
    some ((-1), D3)
  else
    if a2 < 0 then
      some ((-1), D3)
    else
      if a2 ≤ 1 then
        if 0 ≤ a1 ∧ a1 < ((6 : Nat) : Int) then
          if a2 = 1 then
            td_b (F_X3_leastOn a1 D3) fun r5 D6 =>
            td_b (F_X3_mostOn a1 D6) fun r7 D8 =>
            F_X11_can_65 tf_N r5 r7 0 0 D8
          else
            F_X11_can_65 tf_N (D3 3 (Int.toNat a1)) (D3 3 (Int.toNat a1)) 0 0 D3
        else none
      else
        some ((-1), D3)
set_option maxHeartbeats 4000000 in
set_option maxRecDepth 20000 in
theorem S_X11_can (l : Launch) {E : tv_E} (hE : tv_hE E) (d : Nat) (a1 : Int) (a2 : Int) (D : td_D) : td_msim l E (d + 2) mX11_can g_c [tv_R 1, tv_I a1, tv_I a2] D (F_X11_can a1 a2 D) := by
  refine td_meetL (ls := [tv_R 1, tv_I a1, tv_I a2, tv_U, tv_U, tv_U, tv_U]) rfl (Nat.le_of_ble_eq_true rfl) rfl ?_
  unfold F_X11_can
  refine ts_aload_n (i := 0) rfl rfl dX11_can_0 ?_
  refine td_getR (q := 2) tl_X11_12 rfl ga_c_1 rfl dX11_can_1 ?_
  refine ts_iload_n (i := 1) rfl rfl dX11_can_4 ?_
  refine tq_callV (y2 := mX3_isPerson) [tv_I a1] [] 2 (st' := fun r2 => [tv_I r2]) tw_X3_isPerson tx_X3_isPerson tw_c3 ga_c_2 tl_X11_172 rfl rfl rfl rfl (fun _ => rfl) dX11_can_5 (S_X3_isPerson l hE _ a1 D) (fun r2 D3 => ?_)
  refine td_if_eq (tgt := 20) rfl dX11_can_8 ?_ ?_
  · refine ts_iconst rfl dX11_can_20 ?_
    exact td_iret rfl dX11_can_21
  · refine ts_iload_n (i := 2) rfl rfl dX11_can_11 ?_
    refine td_if_lt (tgt := 20) rfl dX11_can_12 ?_ ?_
    · refine ts_iconst rfl dX11_can_20 ?_
      exact td_iret rfl dX11_can_21
    · refine ts_iload_n (i := 2) rfl rfl dX11_can_15 ?_
      refine ts_iconst rfl dX11_can_16 ?_
      refine td_icmp_le (tgt := 22) rfl dX11_can_17 ?_ ?_
      · refine ts_aload_n (i := 0) rfl rfl dX11_can_22 ?_
        refine td_getR (q := 2) tl_X11_12 rfl ga_c_1 rfl dX11_can_23 ?_
        refine td_getR (q := 3) tl_X11_225 rfl ga_c_2 rfl dX11_can_26 ?_
        refine ts_iload_n (i := 1) rfl rfl dX11_can_29 ?_
        refine td_guard (fun h4 => ?_)
        refine td_ialdK ga_c_3 (gn_c_3 _) h4 dX11_can_30 ?_
        refine tq_istore_n [tv_R 1, tv_I a1, tv_I a2, tv_I (D3 3 (Int.toNat a1)), tv_U, tv_U, tv_U] rfl (Nat.le_of_ble_eq_true rfl) rfl rfl dX11_can_31 ?_
        refine ts_iload_n (i := 3) rfl rfl dX11_can_32 ?_
        refine tq_istore [tv_R 1, tv_I a1, tv_I a2, tv_I (D3 3 (Int.toNat a1)), tv_I (D3 3 (Int.toNat a1)), tv_U, tv_U] (Nat.le_of_ble_eq_true rfl) rfl rfl dX11_can_33 ?_
        refine ts_iload_n (i := 2) rfl rfl dX11_can_35 ?_
        refine ts_iconst rfl dX11_can_36 ?_
        refine td_icmp_ne (tgt := 59) rfl dX11_can_37 ?_ ?_
        · refine ts_aload_n (i := 0) rfl rfl dX11_can_40 ?_
          refine td_getR (q := 2) tl_X11_12 rfl ga_c_1 rfl dX11_can_41 ?_
          refine ts_iload_n (i := 1) rfl rfl dX11_can_44 ?_
          refine tq_callV (y2 := mX3_leastOn) [tv_I a1] [] 2 (st' := fun r5 => [tv_I r5]) tw_X3_leastOn tx_X3_leastOn tw_c3 ga_c_2 tl_X11_228 rfl rfl rfl rfl (fun _ => rfl) dX11_can_45 (S_X3_leastOn l hE _ a1 D3) (fun r5 D6 => ?_)
          refine tq_istore_n [tv_R 1, tv_I a1, tv_I a2, tv_I r5, tv_I (D3 3 (Int.toNat a1)), tv_U, tv_U] rfl (Nat.le_of_ble_eq_true rfl) rfl rfl dX11_can_48 ?_
          refine ts_aload_n (i := 0) rfl rfl dX11_can_49 ?_
          refine td_getR (q := 2) tl_X11_12 rfl ga_c_1 rfl dX11_can_50 ?_
          refine ts_iload_n (i := 1) rfl rfl dX11_can_53 ?_
          refine tq_callV (y2 := mX3_mostOn) [tv_I a1] [] 2 (st' := fun r7 => [tv_I r7]) tw_X3_mostOn tx_X3_mostOn tw_c3 ga_c_2 tl_X11_231 rfl rfl rfl rfl (fun _ => rfl) dX11_can_54 (S_X3_mostOn l hE _ a1 D6) (fun r7 D8 => ?_)
          refine tq_istore [tv_R 1, tv_I a1, tv_I a2, tv_I r5, tv_I r7, tv_U, tv_U] (Nat.le_of_ble_eq_true rfl) rfl rfl dX11_can_57 ?_
          refine ts_iconst rfl dX11_can_59 ?_
          refine tq_istore [tv_R 1, tv_I a1, tv_I a2, tv_I r5, tv_I r7, tv_I 0, tv_U] (Nat.le_of_ble_eq_true rfl) rfl rfl dX11_can_60 ?_
          refine ts_iconst rfl dX11_can_62 ?_
          refine tq_istore [tv_R 1, tv_I a1, tv_I a2, tv_I r5, tv_I r7, tv_I 0, tv_I 0] (Nat.le_of_ble_eq_true rfl) rfl rfl dX11_can_63 ?_
          refine tv_weak (ls' := [tv_R 1, tv_U, tv_U, tv_I r5, tv_I r7, tv_I 0, tv_I 0]) ⟨Or.inr rfl, Or.inl rfl, Or.inl rfl, Or.inr rfl, Or.inr rfl, Or.inr rfl, Or.inr rfl, trivial⟩ ?_
          exact S_X11_can_65 hE d tf_N r5 r7 0 0 D8
        · refine ts_iconst rfl dX11_can_59 ?_
          refine tq_istore [tv_R 1, tv_I a1, tv_I a2, tv_I (D3 3 (Int.toNat a1)), tv_I (D3 3 (Int.toNat a1)), tv_I 0, tv_U] (Nat.le_of_ble_eq_true rfl) rfl rfl dX11_can_60 ?_
          refine ts_iconst rfl dX11_can_62 ?_
          refine tq_istore [tv_R 1, tv_I a1, tv_I a2, tv_I (D3 3 (Int.toNat a1)), tv_I (D3 3 (Int.toNat a1)), tv_I 0, tv_I 0] (Nat.le_of_ble_eq_true rfl) rfl rfl dX11_can_63 ?_
          refine tv_weak (ls' := [tv_R 1, tv_U, tv_U, tv_I (D3 3 (Int.toNat a1)), tv_I (D3 3 (Int.toNat a1)), tv_I 0, tv_I 0]) ⟨Or.inr rfl, Or.inl rfl, Or.inl rfl, Or.inr rfl, Or.inr rfl, Or.inr rfl, Or.inr rfl, trivial⟩ ?_
          exact S_X11_can_65 hE d tf_N (D3 3 (Int.toNat a1)) (D3 3 (Int.toNat a1)) 0 0 D3
      · refine ts_iconst rfl dX11_can_20 ?_
        exact td_iret rfl dX11_can_21
def F_X11_refusal (p0 : Nat) (a1 : Int) (D : td_D) : Option (Int × td_D) :=
  if D p0 0 = (-1) then
    some ((-11), D)
  else
    if D p0 0 = a1 then
      some (0, D)
    else
      some ((-12), D)
set_option maxHeartbeats 4000000 in
set_option maxRecDepth 20000 in
theorem S_X11_refusal (l : Launch) {E : tv_E} (hE : tv_hE E) (d : Nat) (p0 : Nat) (a1 : Int) (hp0 : tv_isShelf p0) (D : td_D) : td_msim l E (d + 0) mX11_refusal g_c [tv_R p0, tv_I a1] D (F_X11_refusal p0 a1 D) := by
  refine td_meetL (ls := [tv_R p0, tv_I a1]) rfl (Nat.le_of_ble_eq_true rfl) rfl ?_
  unfold F_X11_refusal
  refine ts_aload_n (i := 0) rfl rfl dX11_refusal_0 ?_
  refine td_getI tl_X11_134 rfl hp0.1 hp0.2.2.1 dX11_refusal_1 ?_
  refine ts_iconst rfl dX11_refusal_4 ?_
  refine td_icmp_ne (tgt := 11) rfl dX11_refusal_5 ?_ ?_
  · refine ts_bipush rfl dX11_refusal_8 ?_
    exact td_iret rfl dX11_refusal_10
  · refine ts_aload_n (i := 0) rfl rfl dX11_refusal_11 ?_
    refine td_getI tl_X11_134 rfl hp0.1 hp0.2.2.1 dX11_refusal_12 ?_
    refine ts_iload_n (i := 1) rfl rfl dX11_refusal_15 ?_
    refine td_icmp_ne (tgt := 23) rfl dX11_refusal_16 ?_ ?_
    · refine ts_iconst rfl dX11_refusal_19 ?_
      refine ts_goto (tgt := 25) rfl dX11_refusal_20 ?_
      exact td_iret rfl dX11_refusal_25
    · refine ts_bipush rfl dX11_refusal_23 ?_
      exact td_iret rfl dX11_refusal_25
def F_X11_round (a1 : Int) (a2 : Int) (a3 : Int) (D : td_D) : Option (Int × td_D) :=
  td_b (F_X11_isShelf a1 D) fun r1 D2 =>
  if r1 = 0 then
    some ((-1), D2)
  else
    td_b (F_X3_isPerson a2 D2) fun r3 D4 =>
    if r3 = 0 then
      some ((-1), D4)
    else
      if (-1) ≤ a3 then
        if 0 ≤ a1 ∧ a1 < ((6 : Nat) : Int) then
          td_b (F_X11_refusal (td_r g_c 46 (Int.toNat a1)) 0 D4) fun r6 D7 =>
          if r6 = 0 then
            td_b (F_X5_plan (td_r g_c 46 (Int.toNat a1)) a2 D7) fun r8 D9 =>
            if r8 = 0 then
              some ((-2), D9)
            else
              if a3 = (-1) then
                some (D9 29 3, D9)
              else
                if D9 29 2 ≤ a3 then
                  some ((-2), D9)
                else
                  if 0 ≤ a3 ∧ a3 < ((20 : Nat) : Int) then
                    some (D9 31 (Int.toNat a3), D9)
                  else none
          else
            some (r6, D7)
        else none
      else
        some ((-1), D4)
set_option maxHeartbeats 4000000 in
set_option maxRecDepth 20000 in
theorem S_X11_round (l : Launch) {E : tv_E} (hE : tv_hE E) (d : Nat) (a1 : Int) (a2 : Int) (a3 : Int) (D : td_D) : td_msim l E (d + 4) mX11_round g_c [tv_R 1, tv_I a1, tv_I a2, tv_I a3] D (F_X11_round a1 a2 a3 D) := by
  refine td_meetL (ls := [tv_R 1, tv_I a1, tv_I a2, tv_I a3, tv_U]) rfl (Nat.le_of_ble_eq_true rfl) rfl ?_
  unfold F_X11_round
  refine ts_iload_n (i := 1) rfl rfl dX11_round_0 ?_
  refine tq_callS (y2 := mX11_isShelf) [tv_I a1] [] (st' := fun r1 => [tv_I r1]) tw_X11_isShelf tx_X11_isShelf tl_X11_131 rfl rfl rfl rfl (fun _ => rfl) dX11_round_1 (S_X11_isShelf l hE _ a1 D) (fun r1 D2 => ?_)
  refine td_if_eq (tgt := 23) rfl dX11_round_4 ?_ ?_
  · refine ts_iconst rfl dX11_round_23 ?_
    exact td_iret rfl dX11_round_24
  · refine ts_aload_n (i := 0) rfl rfl dX11_round_7 ?_
    refine td_getR (q := 2) tl_X11_12 rfl ga_c_1 rfl dX11_round_8 ?_
    refine ts_iload_n (i := 2) rfl rfl dX11_round_11 ?_
    refine tq_callV (y2 := mX3_isPerson) [tv_I a2] [] 2 (st' := fun r3 => [tv_I r3]) tw_X3_isPerson tx_X3_isPerson tw_c3 ga_c_2 tl_X11_172 rfl rfl rfl rfl (fun _ => rfl) dX11_round_12 (S_X3_isPerson l hE _ a2 D2) (fun r3 D4 => ?_)
    refine td_if_eq (tgt := 23) rfl dX11_round_15 ?_ ?_
    · refine ts_iconst rfl dX11_round_23 ?_
      exact td_iret rfl dX11_round_24
    · refine ts_iload_n (i := 3) rfl rfl dX11_round_18 ?_
      refine ts_iconst rfl dX11_round_19 ?_
      refine td_icmp_ge (tgt := 25) rfl dX11_round_20 ?_ ?_
      · refine ts_aload_n (i := 0) rfl rfl dX11_round_25 ?_
        refine td_getR (q := 46) tl_X11_94 rfl ga_c_1 rfl dX11_round_26 ?_
        refine ts_iload_n (i := 1) rfl rfl dX11_round_29 ?_
        refine td_guard (fun h5 => ?_)
        refine td_aaldK ga_c_46 (by decide) h5 dX11_round_30 ?_
        refine ts_iconst rfl dX11_round_31 ?_
        refine tq_callS (y2 := mX11_refusal) [tv_R (td_r g_c 46 (Int.toNat a1)), tv_I 0] [] (st' := fun r6 => [tv_I r6]) tw_X11_refusal tx_X11_refusal tl_X11_240 rfl rfl rfl rfl (fun _ => rfl) dX11_round_32 (S_X11_refusal l hE _ (td_r g_c 46 (Int.toNat a1)) 0 (is_shelf_of h5) D4) (fun r6 D7 => ?_)
        refine tq_istore [tv_R 1, tv_I a1, tv_I a2, tv_I a3, tv_I r6] (Nat.le_of_ble_eq_true rfl) rfl rfl dX11_round_35 ?_
        refine ts_iload rfl dX11_round_37 ?_
        refine td_if_eq (tgt := 45) rfl dX11_round_39 ?_ ?_
        · refine ts_aload_n (i := 0) rfl rfl dX11_round_45 ?_
          refine td_getR (q := 29) tl_X11_64 rfl ga_c_1 rfl dX11_round_46 ?_
          refine ts_aload_n (i := 0) rfl rfl dX11_round_49 ?_
          refine td_getR (q := 2) tl_X11_12 rfl ga_c_1 rfl dX11_round_50 ?_
          refine ts_aload_n (i := 0) rfl rfl dX11_round_53 ?_
          refine td_getR (q := 46) tl_X11_94 rfl ga_c_1 rfl dX11_round_54 ?_
          refine ts_iload_n (i := 1) rfl rfl dX11_round_57 ?_
          refine td_aaldK ga_c_46 (by decide) h5 dX11_round_58 ?_
          refine ts_iload_n (i := 2) rfl rfl dX11_round_59 ?_
          refine tq_callV (y2 := mX5_plan) [tv_R 2, tv_R (td_r g_c 46 (Int.toNat a1)), tv_I a2] [] 29 (st' := fun r8 => [tv_I r8]) tw_X5_plan tx_X5_plan tw_c5 ga_c_29 tl_X11_244 rfl rfl rfl rfl (fun _ => rfl) dX11_round_60 (S_X5_plan l hE _ (td_r g_c 46 (Int.toNat a1)) a2 (is_shelf_of h5) D7) (fun r8 D9 => ?_)
          refine td_if_ne (tgt := 69) rfl dX11_round_63 ?_ ?_
          · refine ts_bipush rfl dX11_round_66 ?_
            exact td_iret rfl dX11_round_68
          · refine ts_iload_n (i := 3) rfl rfl dX11_round_69 ?_
            refine ts_iconst rfl dX11_round_70 ?_
            refine td_icmp_ne (tgt := 82) rfl dX11_round_71 ?_ ?_
            · refine ts_aload_n (i := 0) rfl rfl dX11_round_74 ?_
              refine td_getR (q := 29) tl_X11_64 rfl ga_c_1 rfl dX11_round_75 ?_
              refine td_getI tl_X11_248 rfl ga_c_29 rfl dX11_round_78 ?_
              exact td_iret rfl dX11_round_81
            · refine ts_iload_n (i := 3) rfl rfl dX11_round_82 ?_
              refine ts_aload_n (i := 0) rfl rfl dX11_round_83 ?_
              refine td_getR (q := 29) tl_X11_64 rfl ga_c_1 rfl dX11_round_84 ?_
              refine td_getI tl_X11_251 rfl ga_c_29 rfl dX11_round_87 ?_
              refine td_icmp_ge (tgt := 105) rfl dX11_round_90 ?_ ?_
              · refine ts_bipush rfl dX11_round_105 ?_
                exact td_iret rfl dX11_round_107
              · refine ts_aload_n (i := 0) rfl rfl dX11_round_93 ?_
                refine td_getR (q := 29) tl_X11_64 rfl ga_c_1 rfl dX11_round_94 ?_
                refine td_getR (q := 31) tl_X11_252 rfl ga_c_29 rfl dX11_round_97 ?_
                refine ts_iload_n (i := 3) rfl rfl dX11_round_100 ?_
                refine td_guard (fun h10 => ?_)
                refine td_ialdK ga_c_31 (gn_c_31 _) h10 dX11_round_101 ?_
                refine ts_goto (tgt := 107) rfl dX11_round_102 ?_
                exact td_iret rfl dX11_round_107
        · refine ts_iload rfl dX11_round_42 ?_
          exact td_iret rfl dX11_round_44
      · refine ts_iconst rfl dX11_round_23 ?_
        exact td_iret rfl dX11_round_24
def F_X11_without (a1 : Int) (a2 : Int) (D : td_D) : Option (Int × td_D) :=
  td_b (F_X11_isShelf a1 D) fun r1 D2 =>
  if r1 = 0 then
    some ((-1), D2)
  else
    td_b (F_X3_isPerson a2 D2) fun r3 D4 =>
    if r3 = 0 then
      some ((-1), D4)
    else
      if 0 ≤ a1 ∧ a1 < ((6 : Nat) : Int) then
        td_b (F_X11_refusal (td_r g_c 46 (Int.toNat a1)) 0 D4) fun r6 D7 =>
        if r6 = 0 then
          td_b (F_X5_worthWithoutGoing (td_r g_c 46 (Int.toNat a1)) a2 D7) fun r8 D9 =>
          some (r8, D9)
        else
          some (r6, D7)
      else none
set_option maxHeartbeats 4000000 in
set_option maxRecDepth 20000 in
theorem S_X11_without (l : Launch) {E : tv_E} (hE : tv_hE E) (d : Nat) (a1 : Int) (a2 : Int) (D : td_D) : td_msim l E (d + 4) mX11_without g_c [tv_R 1, tv_I a1, tv_I a2] D (F_X11_without a1 a2 D) := by
  refine td_meetL (ls := [tv_R 1, tv_I a1, tv_I a2, tv_U]) rfl (Nat.le_of_ble_eq_true rfl) rfl ?_
  unfold F_X11_without
  refine ts_iload_n (i := 1) rfl rfl dX11_without_0 ?_
  refine tq_callS (y2 := mX11_isShelf) [tv_I a1] [] (st' := fun r1 => [tv_I r1]) tw_X11_isShelf tx_X11_isShelf tl_X11_131 rfl rfl rfl rfl (fun _ => rfl) dX11_without_1 (S_X11_isShelf l hE _ a1 D) (fun r1 D2 => ?_)
  refine td_if_eq (tgt := 18) rfl dX11_without_4 ?_ ?_
  · refine ts_iconst rfl dX11_without_18 ?_
    exact td_iret rfl dX11_without_19
  · refine ts_aload_n (i := 0) rfl rfl dX11_without_7 ?_
    refine td_getR (q := 2) tl_X11_12 rfl ga_c_1 rfl dX11_without_8 ?_
    refine ts_iload_n (i := 2) rfl rfl dX11_without_11 ?_
    refine tq_callV (y2 := mX3_isPerson) [tv_I a2] [] 2 (st' := fun r3 => [tv_I r3]) tw_X3_isPerson tx_X3_isPerson tw_c3 ga_c_2 tl_X11_172 rfl rfl rfl rfl (fun _ => rfl) dX11_without_12 (S_X3_isPerson l hE _ a2 D2) (fun r3 D4 => ?_)
    refine td_if_ne (tgt := 20) rfl dX11_without_15 ?_ ?_
    · refine ts_iconst rfl dX11_without_18 ?_
      exact td_iret rfl dX11_without_19
    · refine ts_aload_n (i := 0) rfl rfl dX11_without_20 ?_
      refine td_getR (q := 46) tl_X11_94 rfl ga_c_1 rfl dX11_without_21 ?_
      refine ts_iload_n (i := 1) rfl rfl dX11_without_24 ?_
      refine td_guard (fun h5 => ?_)
      refine td_aaldK ga_c_46 (by decide) h5 dX11_without_25 ?_
      refine ts_iconst rfl dX11_without_26 ?_
      refine tq_callS (y2 := mX11_refusal) [tv_R (td_r g_c 46 (Int.toNat a1)), tv_I 0] [] (st' := fun r6 => [tv_I r6]) tw_X11_refusal tx_X11_refusal tl_X11_240 rfl rfl rfl rfl (fun _ => rfl) dX11_without_27 (S_X11_refusal l hE _ (td_r g_c 46 (Int.toNat a1)) 0 (is_shelf_of h5) D4) (fun r6 D7 => ?_)
      refine tq_istore_n [tv_R 1, tv_I a1, tv_I a2, tv_I r6] rfl (Nat.le_of_ble_eq_true rfl) rfl rfl dX11_without_30 ?_
      refine ts_iload_n (i := 3) rfl rfl dX11_without_31 ?_
      refine td_if_eq (tgt := 39) rfl dX11_without_32 ?_ ?_
      · refine ts_aload_n (i := 0) rfl rfl dX11_without_39 ?_
        refine td_getR (q := 29) tl_X11_64 rfl ga_c_1 rfl dX11_without_40 ?_
        refine ts_aload_n (i := 0) rfl rfl dX11_without_43 ?_
        refine td_getR (q := 2) tl_X11_12 rfl ga_c_1 rfl dX11_without_44 ?_
        refine ts_aload_n (i := 0) rfl rfl dX11_without_47 ?_
        refine td_getR (q := 46) tl_X11_94 rfl ga_c_1 rfl dX11_without_48 ?_
        refine ts_iload_n (i := 1) rfl rfl dX11_without_51 ?_
        refine td_aaldK ga_c_46 (by decide) h5 dX11_without_52 ?_
        refine ts_iload_n (i := 2) rfl rfl dX11_without_53 ?_
        refine tq_callV (y2 := mX5_worthWithoutGoing) [tv_R 2, tv_R (td_r g_c 46 (Int.toNat a1)), tv_I a2] [] 29 (st' := fun r8 => [tv_I r8]) tw_X5_worthWithoutGoing tx_X5_worthWithoutGoing tw_c5 ga_c_29 tl_X11_253 rfl rfl rfl rfl (fun _ => rfl) dX11_without_54 (S_X5_worthWithoutGoing l hE _ (td_r g_c 46 (Int.toNat a1)) a2 (is_shelf_of h5) D7) (fun r8 D9 => ?_)
        exact td_iret rfl dX11_without_57
      · refine ts_iload_n (i := 3) rfl rfl dX11_without_35 ?_
        refine ts_goto (tgt := 57) rfl dX11_without_36 ?_
        exact td_iret rfl dX11_without_57
def F_X11_who_18 (v1 : Int) (D : td_D) : Option (Int × td_D) :=
  td_b (F_X4_reckon D) fun _ D2 =>
  if v1 = (-1) then
    some (D2 28 (Int.toNat 0), D2)
  else
    td_b (F_X4_doerOf v1 D2) fun r3 D4 =>
    some (r3, D4)
set_option maxHeartbeats 4000000 in
set_option maxRecDepth 20000 in
theorem S_X11_who_18 {l : Launch} {E : tv_E} (hE : tv_hE E) (d : Nat) (v1 : Int) (D : td_D) : td_sim l E (d + 4) mX11_who g_c 18 [tv_R 1, tv_I v1] [] D (F_X11_who_18 v1 D) := by
  unfold F_X11_who_18
  refine ts_aload_n (i := 0) rfl rfl dX11_who_18 ?_
  refine td_getR (q := 27) tl_X11_57 rfl ga_c_1 rfl dX11_who_19 ?_
  refine ts_aload_n (i := 0) rfl rfl dX11_who_22 ?_
  refine td_getR (q := 2) tl_X11_12 rfl ga_c_1 rfl dX11_who_23 ?_
  refine tq_callV (y2 := mX4_reckon) [tv_R 2] [] 27 (st' := fun _ => []) tw_X4_reckon tx_X4_reckon tw_c4 ga_c_27 tl_X11_260 rfl rfl rfl rfl (fun _ => rfl) dX11_who_26 (S_X4_reckon l hE _ D) (fun r1 D2 => ?_)
  refine ts_iload_n (i := 1) rfl rfl dX11_who_29 ?_
  refine ts_iconst rfl dX11_who_30 ?_
  refine td_icmp_ne (tgt := 46) rfl dX11_who_31 ?_ ?_
  · refine ts_aload_n (i := 0) rfl rfl dX11_who_34 ?_
    refine td_getR (q := 27) tl_X11_57 rfl ga_c_1 rfl dX11_who_35 ?_
    refine td_getR (q := 28) tl_X11_264 rfl ga_c_27 rfl dX11_who_38 ?_
    refine ts_iconst rfl dX11_who_41 ?_
    refine td_ialdK ga_c_28 (gn_c_28 _) ⟨by decide, by decide⟩ dX11_who_42 ?_
    refine ts_goto (tgt := 58) rfl dX11_who_43 ?_
    exact td_iret rfl dX11_who_58
  · refine ts_aload_n (i := 0) rfl rfl dX11_who_46 ?_
    refine td_getR (q := 27) tl_X11_57 rfl ga_c_1 rfl dX11_who_47 ?_
    refine ts_aload_n (i := 0) rfl rfl dX11_who_50 ?_
    refine td_getR (q := 2) tl_X11_12 rfl ga_c_1 rfl dX11_who_51 ?_
    refine ts_iload_n (i := 1) rfl rfl dX11_who_54 ?_
    refine tq_callV (y2 := mX4_doerOf) [tv_R 2, tv_I v1] [] 27 (st' := fun r3 => [tv_I r3]) tw_X4_doerOf tx_X4_doerOf tw_c4 ga_c_27 tl_X11_267 rfl rfl rfl rfl (fun _ => rfl) dX11_who_55 (S_X4_doerOf l hE _ v1 D2) (fun r3 D4 => ?_)
    exact td_iret rfl dX11_who_58
def F_X11_who (a1 : Int) (D : td_D) : Option (Int × td_D) :=
  if a1 = (-1) then
    F_X11_who_18 a1 D
  else
    td_b (F_X3_isDeed a1 D) fun r5 D6 =>
    if r5 = 0 then
      some ((-1), D6)
    else
      F_X11_who_18 a1 D6
set_option maxHeartbeats 4000000 in
set_option maxRecDepth 20000 in
theorem S_X11_who (l : Launch) {E : tv_E} (hE : tv_hE E) (d : Nat) (a1 : Int) (D : td_D) : td_msim l E (d + 4) mX11_who g_c [tv_R 1, tv_I a1] D (F_X11_who a1 D) := by
  refine td_meetL (ls := [tv_R 1, tv_I a1]) rfl (Nat.le_of_ble_eq_true rfl) rfl ?_
  unfold F_X11_who
  refine ts_iload_n (i := 1) rfl rfl dX11_who_0 ?_
  refine ts_iconst rfl dX11_who_1 ?_
  refine td_icmp_eq (tgt := 18) rfl dX11_who_2 ?_ ?_
  · exact S_X11_who_18 hE d a1 D
  · refine ts_aload_n (i := 0) rfl rfl dX11_who_5 ?_
    refine td_getR (q := 2) tl_X11_12 rfl ga_c_1 rfl dX11_who_6 ?_
    refine ts_iload_n (i := 1) rfl rfl dX11_who_9 ?_
    refine tq_callV (y2 := mX3_isDeed) [tv_I a1] [] 2 (st' := fun r5 => [tv_I r5]) tw_X3_isDeed tx_X3_isDeed tw_c3 ga_c_2 tl_X11_257 rfl rfl rfl rfl (fun _ => rfl) dX11_who_10 (S_X3_isDeed l hE _ a1 D) (fun r5 D6 => ?_)
    refine td_if_ne (tgt := 18) rfl dX11_who_13 ?_ ?_
    · refine ts_iconst rfl dX11_who_16 ?_
      exact td_iret rfl dX11_who_17
    · exact S_X11_who_18 hE d a1 D6
def F_X11_stung (a1 : Int) (D : td_D) : Option (Int × td_D) :=
  td_b (F_X11_isCell a1 D) fun r1 D2 =>
  if r1 = 0 then
    some ((-1), D2)
  else
    td_b (F_X3_stingersAt a1 D2) fun r3 D4 =>
    some (r3, D4)
set_option maxHeartbeats 4000000 in
set_option maxRecDepth 20000 in
theorem S_X11_stung (l : Launch) {E : tv_E} (hE : tv_hE E) (d : Nat) (a1 : Int) (D : td_D) : td_msim l E (d + 3) mX11_stung g_c [tv_R 1, tv_I a1] D (F_X11_stung a1 D) := by
  refine td_meetL (ls := [tv_R 1, tv_I a1]) rfl (Nat.le_of_ble_eq_true rfl) rfl ?_
  unfold F_X11_stung
  refine ts_iload_n (i := 1) rfl rfl dX11_stung_0 ?_
  refine tq_callS (y2 := mX11_isCell) [tv_I a1] [] (st' := fun r1 => [tv_I r1]) tw_X11_isCell tx_X11_isCell tl_X11_111 rfl rfl rfl rfl (fun _ => rfl) dX11_stung_1 (S_X11_isCell l hE _ a1 D) (fun r1 D2 => ?_)
  refine td_if_ne (tgt := 9) rfl dX11_stung_4 ?_ ?_
  · refine ts_iconst rfl dX11_stung_7 ?_
    exact td_iret rfl dX11_stung_8
  · refine ts_aload_n (i := 0) rfl rfl dX11_stung_9 ?_
    refine td_getR (q := 2) tl_X11_12 rfl ga_c_1 rfl dX11_stung_10 ?_
    refine ts_iload_n (i := 1) rfl rfl dX11_stung_13 ?_
    refine tq_callV (y2 := mX3_stingersAt) [tv_I a1] [] 2 (st' := fun r3 => [tv_I r3]) tw_X3_stingersAt tx_X3_stingersAt tw_c3 ga_c_2 tl_X11_271 rfl rfl rfl rfl (fun _ => rfl) dX11_stung_14 (S_X3_stingersAt l hE _ a1 D2) (fun r3 D4 => ?_)
    exact td_iret rfl dX11_stung_17
def F_X11_way (a1 : Int) (a2 : Int) (D : td_D) : Option (Int × td_D) :=
  td_b (F_X11_isCell a1 D) fun r1 D2 =>
  if r1 = 0 then
    some ((-1), D2)
  else
    td_b (F_X11_isCell a2 D2) fun r3 D4 =>
    if r3 = 0 then
      some ((-1), D4)
    else
      td_b (F_X10_look D4) fun _ D6 =>
      td_b (F_X10_steps a1 a2 0 ((-1)) D6) fun r7 D8 =>
      some (r7, D8)
set_option maxHeartbeats 4000000 in
set_option maxRecDepth 20000 in
theorem S_X11_way (l : Launch) {E : tv_E} (hE : tv_hE E) (d : Nat) (a1 : Int) (a2 : Int) (D : td_D) : td_msim l E (d + 5) mX11_way g_c [tv_R 1, tv_I a1, tv_I a2] D (F_X11_way a1 a2 D) := by
  refine td_meetL (ls := [tv_R 1, tv_I a1, tv_I a2]) rfl (Nat.le_of_ble_eq_true rfl) rfl ?_
  unfold F_X11_way
  refine ts_iload_n (i := 1) rfl rfl dX11_way_0 ?_
  refine tq_callS (y2 := mX11_isCell) [tv_I a1] [] (st' := fun r1 => [tv_I r1]) tw_X11_isCell tx_X11_isCell tl_X11_111 rfl rfl rfl rfl (fun _ => rfl) dX11_way_1 (S_X11_isCell l hE _ a1 D) (fun r1 D2 => ?_)
  refine td_if_eq (tgt := 14) rfl dX11_way_4 ?_ ?_
  · refine ts_iconst rfl dX11_way_14 ?_
    exact td_iret rfl dX11_way_15
  · refine ts_iload_n (i := 2) rfl rfl dX11_way_7 ?_
    refine tq_callS (y2 := mX11_isCell) [tv_I a2] [] (st' := fun r3 => [tv_I r3]) tw_X11_isCell tx_X11_isCell tl_X11_111 rfl rfl rfl rfl (fun _ => rfl) dX11_way_8 (S_X11_isCell l hE _ a2 D2) (fun r3 D4 => ?_)
    refine td_if_ne (tgt := 16) rfl dX11_way_11 ?_ ?_
    · refine ts_iconst rfl dX11_way_14 ?_
      exact td_iret rfl dX11_way_15
    · refine ts_aload_n (i := 0) rfl rfl dX11_way_16 ?_
      refine td_getR (q := 23) tl_X11_50 rfl ga_c_1 rfl dX11_way_17 ?_
      refine ts_aload_n (i := 0) rfl rfl dX11_way_20 ?_
      refine td_getR (q := 2) tl_X11_12 rfl ga_c_1 rfl dX11_way_21 ?_
      refine tq_callV (y2 := mX10_look) [tv_R 2] [] 23 (st' := fun _ => []) tw_X10_look tx_X10_look tw_c10 ga_c_23 tl_X11_274 rfl rfl rfl rfl (fun _ => rfl) dX11_way_24 (S_X10_look l hE _ D4) (fun r5 D6 => ?_)
      refine ts_aload_n (i := 0) rfl rfl dX11_way_27 ?_
      refine td_getR (q := 23) tl_X11_50 rfl ga_c_1 rfl dX11_way_28 ?_
      refine ts_iload_n (i := 1) rfl rfl dX11_way_31 ?_
      refine ts_iload_n (i := 2) rfl rfl dX11_way_32 ?_
      refine ts_iconst rfl dX11_way_33 ?_
      refine ts_iconst rfl dX11_way_34 ?_
      refine tq_callV (y2 := mX10_steps) [tv_I a1, tv_I a2, tv_I 0, tv_I ((-1))] [] 23 (st' := fun r7 => [tv_I r7]) tw_X10_steps tx_X10_steps tw_c10 ga_c_23 tl_X11_277 rfl rfl rfl rfl (fun _ => rfl) dX11_way_35 (S_X10_steps l hE _ a1 a2 0 ((-1)) D6) (fun r7 D8 => ?_)
      exact td_iret rfl dX11_way_38
def F_X11_least (a1 : Int) (a2 : Int) (a3 : Int) (D : td_D) : Option (Int × td_D) :=
  td_b (F_X11_isCell a1 D) fun r1 D2 =>
  if r1 = 0 then
    some ((-1), D2)
  else
    td_b (F_X11_isCell a2 D2) fun r3 D4 =>
    if r3 = 0 then
      some ((-1), D4)
    else
      if a3 < 0 then
        some ((-1), D4)
      else
        if a3 ≤ 1 then
          td_b (F_X10_look D4) fun _ D6 =>
          td_b (F_X10_leastPrice a1 a2 D6) fun r7 D8 =>
          if a3 = 0 then
            some (tv_div r7 1000, D8)
          else
            some (tv_rem r7 1000, D8)
        else
          some ((-1), D4)
set_option maxHeartbeats 4000000 in
set_option maxRecDepth 20000 in
theorem S_X11_least (l : Launch) {E : tv_E} (hE : tv_hE E) (d : Nat) (a1 : Int) (a2 : Int) (a3 : Int) (D : td_D) : td_msim l E (d + 3) mX11_least g_c [tv_R 1, tv_I a1, tv_I a2, tv_I a3] D (F_X11_least a1 a2 a3 D) := by
  refine td_meetL (ls := [tv_R 1, tv_I a1, tv_I a2, tv_I a3, tv_U]) rfl (Nat.le_of_ble_eq_true rfl) rfl ?_
  unfold F_X11_least
  refine ts_iload_n (i := 1) rfl rfl dX11_least_0 ?_
  refine tq_callS (y2 := mX11_isCell) [tv_I a1] [] (st' := fun r1 => [tv_I r1]) tw_X11_isCell tx_X11_isCell tl_X11_111 rfl rfl rfl rfl (fun _ => rfl) dX11_least_1 (S_X11_isCell l hE _ a1 D) (fun r1 D2 => ?_)
  refine td_if_eq (tgt := 23) rfl dX11_least_4 ?_ ?_
  · refine ts_iconst rfl dX11_least_23 ?_
    exact td_iret rfl dX11_least_24
  · refine ts_iload_n (i := 2) rfl rfl dX11_least_7 ?_
    refine tq_callS (y2 := mX11_isCell) [tv_I a2] [] (st' := fun r3 => [tv_I r3]) tw_X11_isCell tx_X11_isCell tl_X11_111 rfl rfl rfl rfl (fun _ => rfl) dX11_least_8 (S_X11_isCell l hE _ a2 D2) (fun r3 D4 => ?_)
    refine td_if_eq (tgt := 23) rfl dX11_least_11 ?_ ?_
    · refine ts_iconst rfl dX11_least_23 ?_
      exact td_iret rfl dX11_least_24
    · refine ts_iload_n (i := 3) rfl rfl dX11_least_14 ?_
      refine td_if_lt (tgt := 23) rfl dX11_least_15 ?_ ?_
      · refine ts_iconst rfl dX11_least_23 ?_
        exact td_iret rfl dX11_least_24
      · refine ts_iload_n (i := 3) rfl rfl dX11_least_18 ?_
        refine ts_iconst rfl dX11_least_19 ?_
        refine td_icmp_le (tgt := 25) rfl dX11_least_20 ?_ ?_
        · refine ts_aload_n (i := 0) rfl rfl dX11_least_25 ?_
          refine td_getR (q := 23) tl_X11_50 rfl ga_c_1 rfl dX11_least_26 ?_
          refine ts_aload_n (i := 0) rfl rfl dX11_least_29 ?_
          refine td_getR (q := 2) tl_X11_12 rfl ga_c_1 rfl dX11_least_30 ?_
          refine tq_callV (y2 := mX10_look) [tv_R 2] [] 23 (st' := fun _ => []) tw_X10_look tx_X10_look tw_c10 ga_c_23 tl_X11_274 rfl rfl rfl rfl (fun _ => rfl) dX11_least_33 (S_X10_look l hE _ D4) (fun r5 D6 => ?_)
          refine ts_aload_n (i := 0) rfl rfl dX11_least_36 ?_
          refine td_getR (q := 23) tl_X11_50 rfl ga_c_1 rfl dX11_least_37 ?_
          refine ts_iload_n (i := 1) rfl rfl dX11_least_40 ?_
          refine ts_iload_n (i := 2) rfl rfl dX11_least_41 ?_
          refine tq_callV (y2 := mX10_leastPrice) [tv_I a1, tv_I a2] [] 23 (st' := fun r7 => [tv_I r7]) tw_X10_leastPrice tx_X10_leastPrice tw_c10 ga_c_23 tl_X11_281 rfl rfl rfl rfl (fun _ => rfl) dX11_least_42 (S_X10_leastPrice l hE _ a1 a2 D6) (fun r7 D8 => ?_)
          refine tq_istore [tv_R 1, tv_I a1, tv_I a2, tv_I a3, tv_I r7] (Nat.le_of_ble_eq_true rfl) rfl rfl dX11_least_45 ?_
          refine ts_iload_n (i := 3) rfl rfl dX11_least_47 ?_
          refine td_if_ne (tgt := 60) rfl dX11_least_48 ?_ ?_
          · refine ts_iload rfl dX11_least_51 ?_
            refine ts_sipush rfl dX11_least_53 ?_
            refine td_idivK (by decide) dX11_least_56 ?_
            refine ts_goto (tgt := 66) rfl dX11_least_57 ?_
            exact td_iret rfl dX11_least_66
          · refine ts_iload rfl dX11_least_60 ?_
            refine ts_sipush rfl dX11_least_62 ?_
            refine td_iremK (by decide) dX11_least_65 ?_
            exact td_iret rfl dX11_least_66
        · refine ts_iconst rfl dX11_least_23 ?_
          exact td_iret rfl dX11_least_24
def F_X11_set (a1 : Int) (a2 : Int) (a3 : Int) (D : td_D) : Option (Int × td_D) :=
  if a1 < 0 then
    some ((-1), D)
  else
    td_b (F_X11_isCell (tv_div a1 100) D) fun r1 D2 =>
    if r1 = 0 then
      some ((-1), D2)
    else
      td_b (F_X11_isTemper a2 D2) fun r3 D4 =>
      if r3 = 0 then
        some ((-1), D4)
      else
        if a3 < 0 then
          some ((-1), D4)
        else
          if a3 ≤ 1 then
            td_b (F_X10_look D4) fun _ D6 =>
            td_b (F_X3_farOf a2 D6) fun r7 D8 =>
            td_b (F_X10_bestCell (tv_div a1 100) (tv_rem a1 100) r7 D8) fun r9 D10 =>
            if 0 ≤ r9 then
              if a3 = 0 then
                some (r9, D10)
              else
                td_b (F_X10_cellsWithin r9 r7 D10) fun r11 D12 =>
                some (r11, D12)
            else
              some ((-2), D10)
          else
            some ((-1), D4)
set_option maxHeartbeats 4000000 in
set_option maxRecDepth 20000 in
theorem S_X11_set (l : Launch) {E : tv_E} (hE : tv_hE E) (d : Nat) (a1 : Int) (a2 : Int) (a3 : Int) (D : td_D) : td_msim l E (d + 6) mX11_set g_c [tv_R 1, tv_I a1, tv_I a2, tv_I a3] D (F_X11_set a1 a2 a3 D) := by
  refine td_meetL (ls := [tv_R 1, tv_I a1, tv_I a2, tv_I a3, tv_U, tv_U, tv_U, tv_U]) rfl (Nat.le_of_ble_eq_true rfl) rfl ?_
  unfold F_X11_set
  refine ts_iload_n (i := 1) rfl rfl dX11_set_0 ?_
  refine ts_bipush rfl dX11_set_1 ?_
  refine td_idivK (by decide) dX11_set_3 ?_
  refine tq_istore [tv_R 1, tv_I a1, tv_I a2, tv_I a3, tv_I (tv_div a1 100), tv_U, tv_U, tv_U] (Nat.le_of_ble_eq_true rfl) rfl rfl dX11_set_4 ?_
  refine ts_iload_n (i := 1) rfl rfl dX11_set_6 ?_
  refine ts_bipush rfl dX11_set_7 ?_
  refine td_iremK (by decide) dX11_set_9 ?_
  refine tq_istore [tv_R 1, tv_I a1, tv_I a2, tv_I a3, tv_I (tv_div a1 100), tv_I (tv_rem a1 100), tv_U, tv_U] (Nat.le_of_ble_eq_true rfl) rfl rfl dX11_set_10 ?_
  refine ts_iload_n (i := 1) rfl rfl dX11_set_12 ?_
  refine td_if_lt (tgt := 40) rfl dX11_set_13 ?_ ?_
  · refine ts_iconst rfl dX11_set_40 ?_
    exact td_iret rfl dX11_set_41
  · refine ts_iload rfl dX11_set_16 ?_
    refine tq_callS (y2 := mX11_isCell) [tv_I (tv_div a1 100)] [] (st' := fun r1 => [tv_I r1]) tw_X11_isCell tx_X11_isCell tl_X11_111 rfl rfl rfl rfl (fun _ => rfl) dX11_set_18 (S_X11_isCell l hE _ (tv_div a1 100) D) (fun r1 D2 => ?_)
    refine td_if_eq (tgt := 40) rfl dX11_set_21 ?_ ?_
    · refine ts_iconst rfl dX11_set_40 ?_
      exact td_iret rfl dX11_set_41
    · refine ts_iload_n (i := 2) rfl rfl dX11_set_24 ?_
      refine tq_callS (y2 := mX11_isTemper) [tv_I a2] [] (st' := fun r3 => [tv_I r3]) tw_X11_isTemper tx_X11_isTemper tl_X11_99 rfl rfl rfl rfl (fun _ => rfl) dX11_set_25 (S_X11_isTemper l hE _ a2 D2) (fun r3 D4 => ?_)
      refine td_if_eq (tgt := 40) rfl dX11_set_28 ?_ ?_
      · refine ts_iconst rfl dX11_set_40 ?_
        exact td_iret rfl dX11_set_41
      · refine ts_iload_n (i := 3) rfl rfl dX11_set_31 ?_
        refine td_if_lt (tgt := 40) rfl dX11_set_32 ?_ ?_
        · refine ts_iconst rfl dX11_set_40 ?_
          exact td_iret rfl dX11_set_41
        · refine ts_iload_n (i := 3) rfl rfl dX11_set_35 ?_
          refine ts_iconst rfl dX11_set_36 ?_
          refine td_icmp_le (tgt := 42) rfl dX11_set_37 ?_ ?_
          · refine ts_aload_n (i := 0) rfl rfl dX11_set_42 ?_
            refine td_getR (q := 23) tl_X11_50 rfl ga_c_1 rfl dX11_set_43 ?_
            refine ts_aload_n (i := 0) rfl rfl dX11_set_46 ?_
            refine td_getR (q := 2) tl_X11_12 rfl ga_c_1 rfl dX11_set_47 ?_
            refine tq_callV (y2 := mX10_look) [tv_R 2] [] 23 (st' := fun _ => []) tw_X10_look tx_X10_look tw_c10 ga_c_23 tl_X11_274 rfl rfl rfl rfl (fun _ => rfl) dX11_set_50 (S_X10_look l hE _ D4) (fun r5 D6 => ?_)
            refine ts_aload_n (i := 0) rfl rfl dX11_set_53 ?_
            refine td_getR (q := 2) tl_X11_12 rfl ga_c_1 rfl dX11_set_54 ?_
            refine ts_iload_n (i := 2) rfl rfl dX11_set_57 ?_
            refine tq_callV (y2 := mX3_farOf) [tv_I a2] [] 2 (st' := fun r7 => [tv_I r7]) tw_X3_farOf tx_X3_farOf tw_c3 ga_c_2 tl_X11_222 rfl rfl rfl rfl (fun _ => rfl) dX11_set_58 (S_X3_farOf l hE _ a2 D6) (fun r7 D8 => ?_)
            refine tq_istore [tv_R 1, tv_I a1, tv_I a2, tv_I a3, tv_I (tv_div a1 100), tv_I (tv_rem a1 100), tv_I r7, tv_U] (Nat.le_of_ble_eq_true rfl) rfl rfl dX11_set_61 ?_
            refine ts_aload_n (i := 0) rfl rfl dX11_set_63 ?_
            refine td_getR (q := 23) tl_X11_50 rfl ga_c_1 rfl dX11_set_64 ?_
            refine ts_iload rfl dX11_set_67 ?_
            refine ts_iload rfl dX11_set_69 ?_
            refine ts_iload rfl dX11_set_71 ?_
            refine tq_callV (y2 := mX10_bestCell) [tv_I (tv_div a1 100), tv_I (tv_rem a1 100), tv_I r7] [] 23 (st' := fun r9 => [tv_I r9]) tw_X10_bestCell tx_X10_bestCell tw_c10 ga_c_23 tl_X11_284 rfl rfl rfl rfl (fun _ => rfl) dX11_set_73 (S_X10_bestCell l hE _ (tv_div a1 100) (tv_rem a1 100) r7 D8) (fun r9 D10 => ?_)
            refine tq_istore [tv_R 1, tv_I a1, tv_I a2, tv_I a3, tv_I (tv_div a1 100), tv_I (tv_rem a1 100), tv_I r7, tv_I r9] (Nat.le_of_ble_eq_true rfl) rfl rfl dX11_set_76 ?_
            refine ts_iload rfl dX11_set_78 ?_
            refine td_if_ge (tgt := 86) rfl dX11_set_80 ?_ ?_
            · refine ts_iload_n (i := 3) rfl rfl dX11_set_86 ?_
              refine td_if_ne (tgt := 95) rfl dX11_set_87 ?_ ?_
              · refine ts_iload rfl dX11_set_90 ?_
                refine ts_goto (tgt := 102) rfl dX11_set_92 ?_
                exact td_iret rfl dX11_set_102
              · refine ts_iload rfl dX11_set_95 ?_
                refine ts_iload rfl dX11_set_97 ?_
                refine tq_callS (y2 := mX10_cellsWithin) [tv_I r9, tv_I r7] [] (st' := fun r11 => [tv_I r11]) tw_X10_cellsWithin tx_X10_cellsWithin tl_X11_287 rfl rfl rfl rfl (fun _ => rfl) dX11_set_99 (S_X10_cellsWithin l hE _ r9 r7 D10) (fun r11 D12 => ?_)
                exact td_iret rfl dX11_set_102
            · refine ts_bipush rfl dX11_set_83 ?_
              exact td_iret rfl dX11_set_85
          · refine ts_iconst rfl dX11_set_40 ?_
            exact td_iret rfl dX11_set_41
def F_X11_makesAllSo (a1 : Int) (a2 : Int) (a3 : Int) (D : td_D) : Option (Int × td_D) :=
  td_b (F_X3_farOf a1 D) fun r1 D2 =>
  if r1 < a2 then
    some (0, D2)
  else
    if a3 ≤ r1 then
      some (0, D2)
    else
      some (1, D2)
set_option maxHeartbeats 4000000 in
set_option maxRecDepth 20000 in
theorem S_X11_makesAllSo (l : Launch) {E : tv_E} (hE : tv_hE E) (d : Nat) (a1 : Int) (a2 : Int) (a3 : Int) (D : td_D) : td_msim l E (d + 1) mX11_makesAllSo g_c [tv_R 1, tv_I a1, tv_I a2, tv_I a3] D (F_X11_makesAllSo a1 a2 a3 D) := by
  refine td_meetL (ls := [tv_R 1, tv_I a1, tv_I a2, tv_I a3, tv_U]) rfl (Nat.le_of_ble_eq_true rfl) rfl ?_
  unfold F_X11_makesAllSo
  refine ts_aload_n (i := 0) rfl rfl dX11_makesAllSo_0 ?_
  refine td_getR (q := 2) tl_X11_12 rfl ga_c_1 rfl dX11_makesAllSo_1 ?_
  refine ts_iload_n (i := 1) rfl rfl dX11_makesAllSo_4 ?_
  refine tq_callV (y2 := mX3_farOf) [tv_I a1] [] 2 (st' := fun r1 => [tv_I r1]) tw_X3_farOf tx_X3_farOf tw_c3 ga_c_2 tl_X11_222 rfl rfl rfl rfl (fun _ => rfl) dX11_makesAllSo_5 (S_X3_farOf l hE _ a1 D) (fun r1 D2 => ?_)
  refine tq_istore [tv_R 1, tv_I a1, tv_I a2, tv_I a3, tv_I r1] (Nat.le_of_ble_eq_true rfl) rfl rfl dX11_makesAllSo_8 ?_
  refine ts_iload rfl dX11_makesAllSo_10 ?_
  refine ts_iload_n (i := 2) rfl rfl dX11_makesAllSo_12 ?_
  refine td_icmp_lt (tgt := 26) rfl dX11_makesAllSo_13 ?_ ?_
  · refine ts_iconst rfl dX11_makesAllSo_26 ?_
    exact td_zretK (Or.inl rfl) rfl dX11_makesAllSo_27
  · refine ts_iload rfl dX11_makesAllSo_16 ?_
    refine ts_iload_n (i := 3) rfl rfl dX11_makesAllSo_18 ?_
    refine td_icmp_ge (tgt := 26) rfl dX11_makesAllSo_19 ?_ ?_
    · refine ts_iconst rfl dX11_makesAllSo_26 ?_
      exact td_zretK (Or.inl rfl) rfl dX11_makesAllSo_27
    · refine ts_iconst rfl dX11_makesAllSo_22 ?_
      refine ts_goto (tgt := 27) rfl dX11_makesAllSo_23 ?_
      exact td_zretK (Or.inr rfl) rfl dX11_makesAllSo_27
def F_X11_isTry (p0 : Nat) (a1 : Int) (D : td_D) : Option (Int × td_D) :=
  td_b (F_X6_at p0 a1 D) fun r1 D2 =>
  td_b (F_X6_at p0 (tv_w (a1 + 1)) D2) fun r3 D4 =>
  td_b (F_X6_at p0 (tv_w (a1 + 2)) D4) fun r5 D6 =>
  if r1 < 0 then
    some (0, D6)
  else
    if 10 ≤ r1 then
      some (0, D6)
    else
      if r3 < 0 then
        some (0, D6)
      else
        if 10 ≤ r3 then
          some (0, D6)
        else
          if r5 = 0 then
            some (1, D6)
          else
            if r5 = 1 then
              some (1, D6)
            else
              some (0, D6)
set_option maxHeartbeats 4000000 in
set_option maxRecDepth 20000 in
theorem S_X11_isTry (l : Launch) {E : tv_E} (hE : tv_hE E) (d : Nat) (p0 : Nat) (a1 : Int) (hp0 : tv_isShelf p0) (D : td_D) : td_msim l E (d + 2) mX11_isTry g_c [tv_R p0, tv_I a1] D (F_X11_isTry p0 a1 D) := by
  refine td_meetL (ls := [tv_R p0, tv_I a1, tv_U, tv_U, tv_U]) rfl (Nat.le_of_ble_eq_true rfl) rfl ?_
  unfold F_X11_isTry
  refine ts_aload_n (i := 0) rfl rfl dX11_isTry_0 ?_
  refine ts_iload_n (i := 1) rfl rfl dX11_isTry_1 ?_
  refine tq_callV (y2 := mX6_at) [tv_I a1] [] p0 (st' := fun r1 => [tv_I r1]) tw_X6_at tx_X6_at tw_c6 hp0.1 tl_X11_141 rfl rfl rfl rfl (fun _ => rfl) dX11_isTry_2 (S_X6_at l hE _ p0 a1 hp0 D) (fun r1 D2 => ?_)
  refine tq_istore_n [tv_R p0, tv_I a1, tv_I r1, tv_U, tv_U] rfl (Nat.le_of_ble_eq_true rfl) rfl rfl dX11_isTry_5 ?_
  refine ts_aload_n (i := 0) rfl rfl dX11_isTry_6 ?_
  refine ts_iload_n (i := 1) rfl rfl dX11_isTry_7 ?_
  refine ts_iconst rfl dX11_isTry_8 ?_
  refine ts_iadd dX11_isTry_9 ?_
  refine tq_callV (y2 := mX6_at) [tv_I (tv_w (a1 + 1))] [] p0 (st' := fun r3 => [tv_I r3]) tw_X6_at tx_X6_at tw_c6 hp0.1 tl_X11_141 rfl rfl rfl rfl (fun _ => rfl) dX11_isTry_10 (S_X6_at l hE _ p0 (tv_w (a1 + 1)) hp0 D2) (fun r3 D4 => ?_)
  refine tq_istore_n [tv_R p0, tv_I a1, tv_I r1, tv_I r3, tv_U] rfl (Nat.le_of_ble_eq_true rfl) rfl rfl dX11_isTry_13 ?_
  refine ts_aload_n (i := 0) rfl rfl dX11_isTry_14 ?_
  refine ts_iload_n (i := 1) rfl rfl dX11_isTry_15 ?_
  refine ts_iconst rfl dX11_isTry_16 ?_
  refine ts_iadd dX11_isTry_17 ?_
  refine tq_callV (y2 := mX6_at) [tv_I (tv_w (a1 + 2))] [] p0 (st' := fun r5 => [tv_I r5]) tw_X6_at tx_X6_at tw_c6 hp0.1 tl_X11_141 rfl rfl rfl rfl (fun _ => rfl) dX11_isTry_18 (S_X6_at l hE _ p0 (tv_w (a1 + 2)) hp0 D4) (fun r5 D6 => ?_)
  refine tq_istore [tv_R p0, tv_I a1, tv_I r1, tv_I r3, tv_I r5] (Nat.le_of_ble_eq_true rfl) rfl rfl dX11_isTry_21 ?_
  refine ts_iload_n (i := 2) rfl rfl dX11_isTry_23 ?_
  refine td_if_lt (tgt := 58) rfl dX11_isTry_24 ?_ ?_
  · refine ts_iconst rfl dX11_isTry_58 ?_
    exact td_zretK (Or.inl rfl) rfl dX11_isTry_59
  · refine ts_iload_n (i := 2) rfl rfl dX11_isTry_27 ?_
    refine ts_bipush rfl dX11_isTry_28 ?_
    refine td_icmp_ge (tgt := 58) rfl dX11_isTry_30 ?_ ?_
    · refine ts_iconst rfl dX11_isTry_58 ?_
      exact td_zretK (Or.inl rfl) rfl dX11_isTry_59
    · refine ts_iload_n (i := 3) rfl rfl dX11_isTry_33 ?_
      refine td_if_lt (tgt := 58) rfl dX11_isTry_34 ?_ ?_
      · refine ts_iconst rfl dX11_isTry_58 ?_
        exact td_zretK (Or.inl rfl) rfl dX11_isTry_59
      · refine ts_iload_n (i := 3) rfl rfl dX11_isTry_37 ?_
        refine ts_bipush rfl dX11_isTry_38 ?_
        refine td_icmp_ge (tgt := 58) rfl dX11_isTry_40 ?_ ?_
        · refine ts_iconst rfl dX11_isTry_58 ?_
          exact td_zretK (Or.inl rfl) rfl dX11_isTry_59
        · refine ts_iload rfl dX11_isTry_43 ?_
          refine td_if_eq (tgt := 54) rfl dX11_isTry_45 ?_ ?_
          · refine ts_iconst rfl dX11_isTry_54 ?_
            refine ts_goto (tgt := 59) rfl dX11_isTry_55 ?_
            exact td_zretK (Or.inr rfl) rfl dX11_isTry_59
          · refine ts_iload rfl dX11_isTry_48 ?_
            refine ts_iconst rfl dX11_isTry_50 ?_
            refine td_icmp_ne (tgt := 58) rfl dX11_isTry_51 ?_ ?_
            · refine ts_iconst rfl dX11_isTry_54 ?_
              refine ts_goto (tgt := 59) rfl dX11_isTry_55 ?_
              exact td_zretK (Or.inr rfl) rfl dX11_isTry_59
            · refine ts_iconst rfl dX11_isTry_58 ?_
              exact td_zretK (Or.inl rfl) rfl dX11_isTry_59
def F_X11_farthestStung_4 : Nat → Nat → Int → Int → Int → td_D → Option (Int × td_D)
  | 0, _, _, _, _, _ => none
  | n + 1, v0, v1, v2, v3, D =>
    if 60 ≤ v3 then
      some (v2, D)
    else
      td_b (F_X11_isTry v0 v3 D) fun r1 D2 =>
      if r1 = 0 then
        some (v2, D2)
      else
        td_b (F_X6_at v0 (tv_w (v3 + 2)) D2) fun r3 D4 =>
        if r3 = 1 then
          td_b (F_X6_at v0 v3 D4) fun r5 D6 =>
          td_b (F_X6_at v0 (tv_w (v3 + 1)) D6) fun r7 D8 =>
          td_b (F_X11_apart v1 (tv_w (r5 + (tv_w (10 * r7)))) D8) fun r9 D10 =>
          F_X11_farthestStung_4 n v0 v1 (tv_max v2 r9) (tv_w (v3 + 3)) D10
        else
          F_X11_farthestStung_4 n v0 v1 v2 (tv_w (v3 + 3)) D4
set_option maxHeartbeats 4000000 in
set_option maxRecDepth 20000 in
theorem S_X11_farthestStung_4 {l : Launch} {E : tv_E} (hE : tv_hE E) (d : Nat) : ∀ (n : Nat) (v0 : Nat) (v1 : Int) (v2 : Int) (v3 : Int) (D : td_D), tv_isShelf v0 → td_sim l E (d + 3) mX11_farthestStung g_c 4 [tv_R v0, tv_I v1, tv_I v2, tv_I v3] [] D (F_X11_farthestStung_4 n v0 v1 v2 v3 D) := by
  intro n
  induction n with
  | zero => intros; exact tv_none
  | succ n ih =>
    intro v0 v1 v2 v3 D hv0
    show td_sim _ _ _ _ _ _ _ _ _ (F_X11_farthestStung_4 (n + 1) v0 v1 v2 v3 D)
    unfold F_X11_farthestStung_4
    refine ts_iload_n (i := 3) rfl rfl dX11_farthestStung_4 ?_
    refine ts_bipush rfl dX11_farthestStung_5 ?_
    refine td_icmp_ge (tgt := 60) rfl dX11_farthestStung_7 ?_ ?_
    · refine ts_iload_n (i := 2) rfl rfl dX11_farthestStung_60 ?_
      exact td_iret rfl dX11_farthestStung_61
    · refine ts_aload_n (i := 0) rfl rfl dX11_farthestStung_10 ?_
      refine ts_iload_n (i := 3) rfl rfl dX11_farthestStung_11 ?_
      refine tq_callS (y2 := mX11_isTry) [tv_R v0, tv_I v3] [] (st' := fun r1 => [tv_I r1]) tw_X11_isTry tx_X11_isTry tl_X11_305 rfl rfl rfl rfl (fun _ => rfl) dX11_farthestStung_12 (S_X11_isTry l hE _ v0 v3 hv0 D) (fun r1 D2 => ?_)
      refine td_if_eq (tgt := 60) rfl dX11_farthestStung_15 ?_ ?_
      · refine ts_iload_n (i := 2) rfl rfl dX11_farthestStung_60 ?_
        exact td_iret rfl dX11_farthestStung_61
      · refine ts_aload_n (i := 0) rfl rfl dX11_farthestStung_18 ?_
        refine ts_iload_n (i := 3) rfl rfl dX11_farthestStung_19 ?_
        refine ts_iconst rfl dX11_farthestStung_20 ?_
        refine ts_iadd dX11_farthestStung_21 ?_
        refine tq_callV (y2 := mX6_at) [tv_I (tv_w (v3 + 2))] [] v0 (st' := fun r3 => [tv_I r3]) tw_X6_at tx_X6_at tw_c6 hv0.1 tl_X11_141 rfl rfl rfl rfl (fun _ => rfl) dX11_farthestStung_22 (S_X6_at l hE _ v0 (tv_w (v3 + 2)) hv0 D2) (fun r3 D4 => ?_)
        refine ts_iconst rfl dX11_farthestStung_25 ?_
        refine td_icmp_ne (tgt := 54) rfl dX11_farthestStung_26 ?_ ?_
        · refine ts_iload_n (i := 2) rfl rfl dX11_farthestStung_29 ?_
          refine ts_iload_n (i := 1) rfl rfl dX11_farthestStung_30 ?_
          refine ts_aload_n (i := 0) rfl rfl dX11_farthestStung_31 ?_
          refine ts_iload_n (i := 3) rfl rfl dX11_farthestStung_32 ?_
          refine tq_callV (y2 := mX6_at) [tv_I v3] [tv_I v1, tv_I v2] v0 (st' := fun r5 => [tv_I r5, tv_I v1, tv_I v2]) tw_X6_at tx_X6_at tw_c6 hv0.1 tl_X11_141 rfl rfl rfl rfl (fun _ => rfl) dX11_farthestStung_33 (S_X6_at l hE _ v0 v3 hv0 D4) (fun r5 D6 => ?_)
          refine ts_bipush rfl dX11_farthestStung_36 ?_
          refine ts_aload_n (i := 0) rfl rfl dX11_farthestStung_38 ?_
          refine ts_iload_n (i := 3) rfl rfl dX11_farthestStung_39 ?_
          refine ts_iconst rfl dX11_farthestStung_40 ?_
          refine ts_iadd dX11_farthestStung_41 ?_
          refine tq_callV (y2 := mX6_at) [tv_I (tv_w (v3 + 1))] [tv_I 10, tv_I r5, tv_I v1, tv_I v2] v0 (st' := fun r7 => [tv_I r7, tv_I 10, tv_I r5, tv_I v1, tv_I v2]) tw_X6_at tx_X6_at tw_c6 hv0.1 tl_X11_141 rfl rfl rfl rfl (fun _ => rfl) dX11_farthestStung_42 (S_X6_at l hE _ v0 (tv_w (v3 + 1)) hv0 D6) (fun r7 D8 => ?_)
          refine ts_imul dX11_farthestStung_45 ?_
          refine ts_iadd dX11_farthestStung_46 ?_
          refine tq_callS (y2 := mX11_apart) [tv_I v1, tv_I (tv_w (r5 + (tv_w (10 * r7))))] [tv_I v2] (st' := fun r9 => [tv_I r9, tv_I v2]) tw_X11_apart tx_X11_apart tl_X11_308 rfl rfl rfl rfl (fun _ => rfl) dX11_farthestStung_47 (S_X11_apart l hE _ v1 (tv_w (r5 + (tv_w (10 * r7)))) D8) (fun r9 D10 => ?_)
          refine ts_mmax rfl rfl tl_X11_219 dX11_farthestStung_50 ?_
          refine tq_istore_n [tv_R v0, tv_I v1, tv_I (tv_max v2 r9), tv_I v3] rfl (Nat.le_of_ble_eq_true rfl) rfl rfl dX11_farthestStung_53 ?_
          refine tq_iinc [tv_R v0, tv_I v1, tv_I (tv_max v2 r9), tv_I (tv_w (v3 + 3))] rfl rfl rfl dX11_farthestStung_54 ?_
          refine ts_goto (tgt := 4) rfl dX11_farthestStung_57 ?_
          exact ih v0 v1 (tv_max v2 r9) (tv_w (v3 + 3)) D10 hv0
        · refine tq_iinc [tv_R v0, tv_I v1, tv_I v2, tv_I (tv_w (v3 + 3))] rfl rfl rfl dX11_farthestStung_54 ?_
          refine ts_goto (tgt := 4) rfl dX11_farthestStung_57 ?_
          exact ih v0 v1 v2 (tv_w (v3 + 3)) D4 hv0
def F_X11_farthestStung (p0 : Nat) (a1 : Int) (D : td_D) : Option (Int × td_D) :=
  F_X11_farthestStung_4 tf_N p0 a1 ((-1)) 0 D
set_option maxHeartbeats 4000000 in
set_option maxRecDepth 20000 in
theorem S_X11_farthestStung (l : Launch) {E : tv_E} (hE : tv_hE E) (d : Nat) (p0 : Nat) (a1 : Int) (hp0 : tv_isShelf p0) (D : td_D) : td_msim l E (d + 3) mX11_farthestStung g_c [tv_R p0, tv_I a1] D (F_X11_farthestStung p0 a1 D) := by
  refine td_meetL (ls := [tv_R p0, tv_I a1, tv_U, tv_U]) rfl (Nat.le_of_ble_eq_true rfl) rfl ?_
  unfold F_X11_farthestStung
  refine ts_iconst rfl dX11_farthestStung_0 ?_
  refine tq_istore_n [tv_R p0, tv_I a1, tv_I ((-1)), tv_U] rfl (Nat.le_of_ble_eq_true rfl) rfl rfl dX11_farthestStung_1 ?_
  refine ts_iconst rfl dX11_farthestStung_2 ?_
  refine tq_istore_n [tv_R p0, tv_I a1, tv_I ((-1)), tv_I 0] rfl (Nat.le_of_ble_eq_true rfl) rfl rfl dX11_farthestStung_3 ?_
  exact S_X11_farthestStung_4 hE d tf_N p0 a1 ((-1)) 0 D hp0
def F_X11_nearestSafe_5 : Nat → Nat → Int → Int → Int → td_D → Option (Int × td_D)
  | 0, _, _, _, _, _ => none
  | n + 1, v0, v1, v2, v3, D =>
    if 60 ≤ v3 then
      some (v2, D)
    else
      td_b (F_X11_isTry v0 v3 D) fun r1 D2 =>
      if r1 = 0 then
        some (v2, D2)
      else
        td_b (F_X6_at v0 (tv_w (v3 + 2)) D2) fun r3 D4 =>
        if r3 = 0 then
          td_b (F_X6_at v0 v3 D4) fun r5 D6 =>
          td_b (F_X6_at v0 (tv_w (v3 + 1)) D6) fun r7 D8 =>
          td_b (F_X11_apart v1 (tv_w (r5 + (tv_w (10 * r7)))) D8) fun r9 D10 =>
          F_X11_nearestSafe_5 n v0 v1 (tv_min v2 r9) (tv_w (v3 + 3)) D10
        else
          F_X11_nearestSafe_5 n v0 v1 v2 (tv_w (v3 + 3)) D4
set_option maxHeartbeats 4000000 in
set_option maxRecDepth 20000 in
theorem S_X11_nearestSafe_5 {l : Launch} {E : tv_E} (hE : tv_hE E) (d : Nat) : ∀ (n : Nat) (v0 : Nat) (v1 : Int) (v2 : Int) (v3 : Int) (D : td_D), tv_isShelf v0 → td_sim l E (d + 3) mX11_nearestSafe g_c 5 [tv_R v0, tv_I v1, tv_I v2, tv_I v3] [] D (F_X11_nearestSafe_5 n v0 v1 v2 v3 D) := by
  intro n
  induction n with
  | zero => intros; exact tv_none
  | succ n ih =>
    intro v0 v1 v2 v3 D hv0
    show td_sim _ _ _ _ _ _ _ _ _ (F_X11_nearestSafe_5 (n + 1) v0 v1 v2 v3 D)
    unfold F_X11_nearestSafe_5
    refine ts_iload_n (i := 3) rfl rfl dX11_nearestSafe_5 ?_
    refine ts_bipush rfl dX11_nearestSafe_6 ?_
    refine td_icmp_ge (tgt := 60) rfl dX11_nearestSafe_8 ?_ ?_
    · refine ts_iload_n (i := 2) rfl rfl dX11_nearestSafe_60 ?_
      exact td_iret rfl dX11_nearestSafe_61
    · refine ts_aload_n (i := 0) rfl rfl dX11_nearestSafe_11 ?_
      refine ts_iload_n (i := 3) rfl rfl dX11_nearestSafe_12 ?_
      refine tq_callS (y2 := mX11_isTry) [tv_R v0, tv_I v3] [] (st' := fun r1 => [tv_I r1]) tw_X11_isTry tx_X11_isTry tl_X11_305 rfl rfl rfl rfl (fun _ => rfl) dX11_nearestSafe_13 (S_X11_isTry l hE _ v0 v3 hv0 D) (fun r1 D2 => ?_)
      refine td_if_eq (tgt := 60) rfl dX11_nearestSafe_16 ?_ ?_
      · refine ts_iload_n (i := 2) rfl rfl dX11_nearestSafe_60 ?_
        exact td_iret rfl dX11_nearestSafe_61
      · refine ts_aload_n (i := 0) rfl rfl dX11_nearestSafe_19 ?_
        refine ts_iload_n (i := 3) rfl rfl dX11_nearestSafe_20 ?_
        refine ts_iconst rfl dX11_nearestSafe_21 ?_
        refine ts_iadd dX11_nearestSafe_22 ?_
        refine tq_callV (y2 := mX6_at) [tv_I (tv_w (v3 + 2))] [] v0 (st' := fun r3 => [tv_I r3]) tw_X6_at tx_X6_at tw_c6 hv0.1 tl_X11_141 rfl rfl rfl rfl (fun _ => rfl) dX11_nearestSafe_23 (S_X6_at l hE _ v0 (tv_w (v3 + 2)) hv0 D2) (fun r3 D4 => ?_)
        refine td_if_ne (tgt := 54) rfl dX11_nearestSafe_26 ?_ ?_
        · refine ts_iload_n (i := 2) rfl rfl dX11_nearestSafe_29 ?_
          refine ts_iload_n (i := 1) rfl rfl dX11_nearestSafe_30 ?_
          refine ts_aload_n (i := 0) rfl rfl dX11_nearestSafe_31 ?_
          refine ts_iload_n (i := 3) rfl rfl dX11_nearestSafe_32 ?_
          refine tq_callV (y2 := mX6_at) [tv_I v3] [tv_I v1, tv_I v2] v0 (st' := fun r5 => [tv_I r5, tv_I v1, tv_I v2]) tw_X6_at tx_X6_at tw_c6 hv0.1 tl_X11_141 rfl rfl rfl rfl (fun _ => rfl) dX11_nearestSafe_33 (S_X6_at l hE _ v0 v3 hv0 D4) (fun r5 D6 => ?_)
          refine ts_bipush rfl dX11_nearestSafe_36 ?_
          refine ts_aload_n (i := 0) rfl rfl dX11_nearestSafe_38 ?_
          refine ts_iload_n (i := 3) rfl rfl dX11_nearestSafe_39 ?_
          refine ts_iconst rfl dX11_nearestSafe_40 ?_
          refine ts_iadd dX11_nearestSafe_41 ?_
          refine tq_callV (y2 := mX6_at) [tv_I (tv_w (v3 + 1))] [tv_I 10, tv_I r5, tv_I v1, tv_I v2] v0 (st' := fun r7 => [tv_I r7, tv_I 10, tv_I r5, tv_I v1, tv_I v2]) tw_X6_at tx_X6_at tw_c6 hv0.1 tl_X11_141 rfl rfl rfl rfl (fun _ => rfl) dX11_nearestSafe_42 (S_X6_at l hE _ v0 (tv_w (v3 + 1)) hv0 D6) (fun r7 D8 => ?_)
          refine ts_imul dX11_nearestSafe_45 ?_
          refine ts_iadd dX11_nearestSafe_46 ?_
          refine tq_callS (y2 := mX11_apart) [tv_I v1, tv_I (tv_w (r5 + (tv_w (10 * r7))))] [tv_I v2] (st' := fun r9 => [tv_I r9, tv_I v2]) tw_X11_apart tx_X11_apart tl_X11_308 rfl rfl rfl rfl (fun _ => rfl) dX11_nearestSafe_47 (S_X11_apart l hE _ v1 (tv_w (r5 + (tv_w (10 * r7)))) D8) (fun r9 D10 => ?_)
          refine ts_mmin rfl rfl tl_X11_214 dX11_nearestSafe_50 ?_
          refine tq_istore_n [tv_R v0, tv_I v1, tv_I (tv_min v2 r9), tv_I v3] rfl (Nat.le_of_ble_eq_true rfl) rfl rfl dX11_nearestSafe_53 ?_
          refine tq_iinc [tv_R v0, tv_I v1, tv_I (tv_min v2 r9), tv_I (tv_w (v3 + 3))] rfl rfl rfl dX11_nearestSafe_54 ?_
          refine ts_goto (tgt := 5) rfl dX11_nearestSafe_57 ?_
          exact ih v0 v1 (tv_min v2 r9) (tv_w (v3 + 3)) D10 hv0
        · refine tq_iinc [tv_R v0, tv_I v1, tv_I v2, tv_I (tv_w (v3 + 3))] rfl rfl rfl dX11_nearestSafe_54 ?_
          refine ts_goto (tgt := 5) rfl dX11_nearestSafe_57 ?_
          exact ih v0 v1 v2 (tv_w (v3 + 3)) D4 hv0
def F_X11_nearestSafe (p0 : Nat) (a1 : Int) (D : td_D) : Option (Int × td_D) :=
  F_X11_nearestSafe_5 tf_N p0 a1 100 0 D
set_option maxHeartbeats 4000000 in
set_option maxRecDepth 20000 in
theorem S_X11_nearestSafe (l : Launch) {E : tv_E} (hE : tv_hE E) (d : Nat) (p0 : Nat) (a1 : Int) (hp0 : tv_isShelf p0) (D : td_D) : td_msim l E (d + 3) mX11_nearestSafe g_c [tv_R p0, tv_I a1] D (F_X11_nearestSafe p0 a1 D) := by
  refine td_meetL (ls := [tv_R p0, tv_I a1, tv_U, tv_U]) rfl (Nat.le_of_ble_eq_true rfl) rfl ?_
  unfold F_X11_nearestSafe
  refine ts_bipush rfl dX11_nearestSafe_0 ?_
  refine tq_istore_n [tv_R p0, tv_I a1, tv_I 100, tv_U] rfl (Nat.le_of_ble_eq_true rfl) rfl rfl dX11_nearestSafe_2 ?_
  refine ts_iconst rfl dX11_nearestSafe_3 ?_
  refine tq_istore_n [tv_R p0, tv_I a1, tv_I 100, tv_I 0] rfl (Nat.le_of_ble_eq_true rfl) rfl rfl dX11_nearestSafe_4 ?_
  exact S_X11_nearestSafe_5 hE d tf_N p0 a1 100 0 D hp0
def F_X11_tries_99 : Nat → Int → Int → Int → Int → Int → Int → Int → td_D → Option (Int × td_D)
  | 0, _, _, _, _, _, _, _, _ => none
  | n + 1, v3, v6, v7, v8, v9, v10, v11, D =>
    if 99 < v11 then
      if v3 = 0 then
        some (v8, D)
      else
        if v3 = 1 then
          some (v9, D)
        else
          some (v10, D)
    else
      td_b (F_X11_makesAllSo v11 v6 v7 D) fun r1 D2 =>
      if r1 = 0 then
        F_X11_tries_99 n v3 v6 v7 v8 v9 v10 (tv_w (v11 + 1)) D2
      else
        if v9 = (-2) then
          F_X11_tries_99 n v3 v6 v7 (tv_w (v8 + 1)) v11 v11 (tv_w (v11 + 1)) D2
        else
          F_X11_tries_99 n v3 v6 v7 (tv_w (v8 + 1)) v9 v11 (tv_w (v11 + 1)) D2
set_option maxHeartbeats 4000000 in
set_option maxRecDepth 20000 in
theorem S_X11_tries_99 {l : Launch} {E : tv_E} (hE : tv_hE E) (d : Nat) : ∀ (n : Nat) (v3 : Int) (v6 : Int) (v7 : Int) (v8 : Int) (v9 : Int) (v10 : Int) (v11 : Int) (D : td_D), td_sim l E (d + 4) mX11_tries g_c 99 [tv_R 1, tv_U, tv_U, tv_I v3, tv_U, tv_U, tv_I v6, tv_I v7, tv_I v8, tv_I v9, tv_I v10, tv_I v11] [] D (F_X11_tries_99 n v3 v6 v7 v8 v9 v10 v11 D) := by
  intro n
  induction n with
  | zero => intros; exact tv_none
  | succ n ih =>
    intro v3 v6 v7 v8 v9 v10 v11 D
    show td_sim _ _ _ _ _ _ _ _ _ (F_X11_tries_99 (n + 1) v3 v6 v7 v8 v9 v10 v11 D)
    unfold F_X11_tries_99
    refine ts_iload rfl dX11_tries_99 ?_
    refine ts_bipush rfl dX11_tries_101 ?_
    refine td_icmp_gt (tgt := 148) rfl dX11_tries_103 ?_ ?_
    · refine ts_iload_n (i := 3) rfl rfl dX11_tries_148 ?_
      refine td_if_ne (tgt := 157) rfl dX11_tries_149 ?_ ?_
      · refine ts_iload rfl dX11_tries_152 ?_
        refine ts_goto (tgt := 169) rfl dX11_tries_154 ?_
        exact td_iret rfl dX11_tries_169
      · refine ts_iload_n (i := 3) rfl rfl dX11_tries_157 ?_
        refine ts_iconst rfl dX11_tries_158 ?_
        refine td_icmp_ne (tgt := 167) rfl dX11_tries_159 ?_ ?_
        · refine ts_iload rfl dX11_tries_162 ?_
          refine ts_goto (tgt := 169) rfl dX11_tries_164 ?_
          exact td_iret rfl dX11_tries_169
        · refine ts_iload rfl dX11_tries_167 ?_
          exact td_iret rfl dX11_tries_169
    · refine ts_aload_n (i := 0) rfl rfl dX11_tries_106 ?_
      refine ts_iload rfl dX11_tries_107 ?_
      refine ts_iload rfl dX11_tries_109 ?_
      refine ts_iload rfl dX11_tries_111 ?_
      refine tq_callV (y2 := mX11_makesAllSo) [tv_I v11, tv_I v6, tv_I v7] [] 1 (st' := fun r1 => [tv_I r1]) tw_X11_makesAllSo tx_X11_makesAllSo tw_c11 ga_c_1 tl_X11_299 rfl rfl rfl rfl (fun _ => rfl) dX11_tries_113 (S_X11_makesAllSo l hE _ v11 v6 v7 D) (fun r1 D2 => ?_)
      refine td_if_eq (tgt := 142) rfl dX11_tries_116 ?_ ?_
      · refine tq_iinc [tv_R 1, tv_U, tv_U, tv_I v3, tv_U, tv_U, tv_I v6, tv_I v7, tv_I v8, tv_I v9, tv_I v10, tv_I (tv_w (v11 + 1))] rfl rfl rfl dX11_tries_142 ?_
        refine ts_goto (tgt := 99) rfl dX11_tries_145 ?_
        exact ih v3 v6 v7 v8 v9 v10 (tv_w (v11 + 1)) D2
      · refine tq_iinc [tv_R 1, tv_U, tv_U, tv_I v3, tv_U, tv_U, tv_I v6, tv_I v7, tv_I (tv_w (v8 + 1)), tv_I v9, tv_I v10, tv_I v11] rfl rfl rfl dX11_tries_119 ?_
        refine ts_iload rfl dX11_tries_122 ?_
        refine ts_bipush rfl dX11_tries_124 ?_
        refine td_icmp_ne (tgt := 134) rfl dX11_tries_126 ?_ ?_
        · refine ts_iload rfl dX11_tries_129 ?_
          refine ts_goto (tgt := 136) rfl dX11_tries_131 ?_
          refine tq_istore [tv_R 1, tv_U, tv_U, tv_I v3, tv_U, tv_U, tv_I v6, tv_I v7, tv_I (tv_w (v8 + 1)), tv_I v11, tv_I v10, tv_I v11] (Nat.le_of_ble_eq_true rfl) rfl rfl dX11_tries_136 ?_
          refine ts_iload rfl dX11_tries_138 ?_
          refine tq_istore [tv_R 1, tv_U, tv_U, tv_I v3, tv_U, tv_U, tv_I v6, tv_I v7, tv_I (tv_w (v8 + 1)), tv_I v11, tv_I v11, tv_I v11] (Nat.le_of_ble_eq_true rfl) rfl rfl dX11_tries_140 ?_
          refine tq_iinc [tv_R 1, tv_U, tv_U, tv_I v3, tv_U, tv_U, tv_I v6, tv_I v7, tv_I (tv_w (v8 + 1)), tv_I v11, tv_I v11, tv_I (tv_w (v11 + 1))] rfl rfl rfl dX11_tries_142 ?_
          refine ts_goto (tgt := 99) rfl dX11_tries_145 ?_
          exact ih v3 v6 v7 (tv_w (v8 + 1)) v11 v11 (tv_w (v11 + 1)) D2
        · refine ts_iload rfl dX11_tries_134 ?_
          refine tq_istore [tv_R 1, tv_U, tv_U, tv_I v3, tv_U, tv_U, tv_I v6, tv_I v7, tv_I (tv_w (v8 + 1)), tv_I v9, tv_I v10, tv_I v11] (Nat.le_of_ble_eq_true rfl) rfl rfl dX11_tries_136 ?_
          refine ts_iload rfl dX11_tries_138 ?_
          refine tq_istore [tv_R 1, tv_U, tv_U, tv_I v3, tv_U, tv_U, tv_I v6, tv_I v7, tv_I (tv_w (v8 + 1)), tv_I v9, tv_I v11, tv_I v11] (Nat.le_of_ble_eq_true rfl) rfl rfl dX11_tries_140 ?_
          refine tq_iinc [tv_R 1, tv_U, tv_U, tv_I v3, tv_U, tv_U, tv_I v6, tv_I v7, tv_I (tv_w (v8 + 1)), tv_I v9, tv_I v11, tv_I (tv_w (v11 + 1))] rfl rfl rfl dX11_tries_142 ?_
          refine ts_goto (tgt := 99) rfl dX11_tries_145 ?_
          exact ih v3 v6 v7 (tv_w (v8 + 1)) v9 v11 (tv_w (v11 + 1)) D2
def F_X11_tries (a1 : Int) (a2 : Int) (a3 : Int) (D : td_D) : Option (Int × td_D) :=
  td_b (F_X11_isShelf a1 D) fun r3 D4 =>
  if r3 = 0 then
    some ((-1), D4)
  else
    td_b (F_X3_isHive a2 D4) fun r5 D6 =>
    if r5 = 0 then
      some ((-1), D6)
    else
      if a3 < 0 then
        some ((-1), D6)
      else
        if a3 ≤ 2 then
          if 0 ≤ a1 ∧ a1 < ((6 : Nat) : Int) then
            td_b (F_X11_refusal (td_r g_c 46 (Int.toNat a1)) 0 D6) fun r8 D9 =>
            if r8 = 0 then
              if 0 ≤ a2 ∧ a2 < ((5 : Nat) : Int) then
                td_b (F_X11_farthestStung (td_r g_c 46 (Int.toNat a1)) (D9 4 (Int.toNat a2)) D9) fun r11 D12 =>
                td_b (F_X11_nearestSafe (td_r g_c 46 (Int.toNat a1)) (D12 4 (Int.toNat a2)) D12) fun r13 D14 =>
                F_X11_tries_99 tf_N a3 r11 r13 0 ((-2)) ((-2)) 0 D14
              else none
            else
              some (r8, D9)
          else none
        else
          some ((-1), D6)
set_option maxHeartbeats 4000000 in
set_option maxRecDepth 20000 in
theorem S_X11_tries (l : Launch) {E : tv_E} (hE : tv_hE E) (d : Nat) (a1 : Int) (a2 : Int) (a3 : Int) (D : td_D) : td_msim l E (d + 4) mX11_tries g_c [tv_R 1, tv_I a1, tv_I a2, tv_I a3] D (F_X11_tries a1 a2 a3 D) := by
  refine td_meetL (ls := [tv_R 1, tv_I a1, tv_I a2, tv_I a3, tv_U, tv_U, tv_U, tv_U, tv_U, tv_U, tv_U, tv_U]) rfl (Nat.le_of_ble_eq_true rfl) rfl ?_
  unfold F_X11_tries
  refine ts_iload_n (i := 1) rfl rfl dX11_tries_0 ?_
  refine tq_callS (y2 := mX11_isShelf) [tv_I a1] [] (st' := fun r3 => [tv_I r3]) tw_X11_isShelf tx_X11_isShelf tl_X11_131 rfl rfl rfl rfl (fun _ => rfl) dX11_tries_1 (S_X11_isShelf l hE _ a1 D) (fun r3 D4 => ?_)
  refine td_if_eq (tgt := 27) rfl dX11_tries_4 ?_ ?_
  · refine ts_iconst rfl dX11_tries_27 ?_
    exact td_iret rfl dX11_tries_28
  · refine ts_aload_n (i := 0) rfl rfl dX11_tries_7 ?_
    refine td_getR (q := 2) tl_X11_12 rfl ga_c_1 rfl dX11_tries_8 ?_
    refine ts_iload_n (i := 2) rfl rfl dX11_tries_11 ?_
    refine tq_callV (y2 := mX3_isHive) [tv_I a2] [] 2 (st' := fun r5 => [tv_I r5]) tw_X3_isHive tx_X3_isHive tw_c3 ga_c_2 tl_X11_169 rfl rfl rfl rfl (fun _ => rfl) dX11_tries_12 (S_X3_isHive l hE _ a2 D4) (fun r5 D6 => ?_)
    refine td_if_eq (tgt := 27) rfl dX11_tries_15 ?_ ?_
    · refine ts_iconst rfl dX11_tries_27 ?_
      exact td_iret rfl dX11_tries_28
    · refine ts_iload_n (i := 3) rfl rfl dX11_tries_18 ?_
      refine td_if_lt (tgt := 27) rfl dX11_tries_19 ?_ ?_
      · refine ts_iconst rfl dX11_tries_27 ?_
        exact td_iret rfl dX11_tries_28
      · refine ts_iload_n (i := 3) rfl rfl dX11_tries_22 ?_
        refine ts_iconst rfl dX11_tries_23 ?_
        refine td_icmp_le (tgt := 29) rfl dX11_tries_24 ?_ ?_
        · refine ts_aload_n (i := 0) rfl rfl dX11_tries_29 ?_
          refine td_getR (q := 46) tl_X11_94 rfl ga_c_1 rfl dX11_tries_30 ?_
          refine ts_iload_n (i := 1) rfl rfl dX11_tries_33 ?_
          refine td_guard (fun h7 => ?_)
          refine td_aaldK ga_c_46 (by decide) h7 dX11_tries_34 ?_
          refine tq_astore [tv_R 1, tv_I a1, tv_I a2, tv_I a3, tv_R (td_r g_c 46 (Int.toNat a1)), tv_U, tv_U, tv_U, tv_U, tv_U, tv_U, tv_U] (Nat.le_of_ble_eq_true rfl) rfl (shelf_pos (is_shelf_of h7)) rfl dX11_tries_35 ?_
          refine ts_aload rfl dX11_tries_37 ?_
          refine ts_iconst rfl dX11_tries_39 ?_
          refine tq_callS (y2 := mX11_refusal) [tv_R (td_r g_c 46 (Int.toNat a1)), tv_I 0] [] (st' := fun r8 => [tv_I r8]) tw_X11_refusal tx_X11_refusal tl_X11_240 rfl rfl rfl rfl (fun _ => rfl) dX11_tries_40 (S_X11_refusal l hE _ (td_r g_c 46 (Int.toNat a1)) 0 (is_shelf_of h7) D6) (fun r8 D9 => ?_)
          refine tq_istore [tv_R 1, tv_I a1, tv_I a2, tv_I a3, tv_R (td_r g_c 46 (Int.toNat a1)), tv_I r8, tv_U, tv_U, tv_U, tv_U, tv_U, tv_U] (Nat.le_of_ble_eq_true rfl) rfl rfl dX11_tries_43 ?_
          refine ts_iload rfl dX11_tries_45 ?_
          refine td_if_eq (tgt := 53) rfl dX11_tries_47 ?_ ?_
          · refine ts_aload rfl dX11_tries_53 ?_
            refine ts_aload_n (i := 0) rfl rfl dX11_tries_55 ?_
            refine td_getR (q := 2) tl_X11_12 rfl ga_c_1 rfl dX11_tries_56 ?_
            refine td_getR (q := 4) tl_X11_290 rfl ga_c_2 rfl dX11_tries_59 ?_
            refine ts_iload_n (i := 2) rfl rfl dX11_tries_62 ?_
            refine td_guard (fun h10 => ?_)
            refine td_ialdK ga_c_4 (gn_c_4 _) h10 dX11_tries_63 ?_
            refine tq_callS (y2 := mX11_farthestStung) [tv_R (td_r g_c 46 (Int.toNat a1)), tv_I (D9 4 (Int.toNat a2))] [] (st' := fun r11 => [tv_I r11]) tw_X11_farthestStung tx_X11_farthestStung tl_X11_293 rfl rfl rfl rfl (fun _ => rfl) dX11_tries_64 (S_X11_farthestStung l hE _ (td_r g_c 46 (Int.toNat a1)) (D9 4 (Int.toNat a2)) (is_shelf_of h7) D9) (fun r11 D12 => ?_)
            refine tq_istore [tv_R 1, tv_I a1, tv_I a2, tv_I a3, tv_R (td_r g_c 46 (Int.toNat a1)), tv_I r8, tv_I r11, tv_U, tv_U, tv_U, tv_U, tv_U] (Nat.le_of_ble_eq_true rfl) rfl rfl dX11_tries_67 ?_
            refine ts_aload rfl dX11_tries_69 ?_
            refine ts_aload_n (i := 0) rfl rfl dX11_tries_71 ?_
            refine td_getR (q := 2) tl_X11_12 rfl ga_c_1 rfl dX11_tries_72 ?_
            refine td_getR (q := 4) tl_X11_290 rfl ga_c_2 rfl dX11_tries_75 ?_
            refine ts_iload_n (i := 2) rfl rfl dX11_tries_78 ?_
            refine td_ialdK ga_c_4 (gn_c_4 _) h10 dX11_tries_79 ?_
            refine tq_callS (y2 := mX11_nearestSafe) [tv_R (td_r g_c 46 (Int.toNat a1)), tv_I (D12 4 (Int.toNat a2))] [] (st' := fun r13 => [tv_I r13]) tw_X11_nearestSafe tx_X11_nearestSafe tl_X11_296 rfl rfl rfl rfl (fun _ => rfl) dX11_tries_80 (S_X11_nearestSafe l hE _ (td_r g_c 46 (Int.toNat a1)) (D12 4 (Int.toNat a2)) (is_shelf_of h7) D12) (fun r13 D14 => ?_)
            refine tq_istore [tv_R 1, tv_I a1, tv_I a2, tv_I a3, tv_R (td_r g_c 46 (Int.toNat a1)), tv_I r8, tv_I r11, tv_I r13, tv_U, tv_U, tv_U, tv_U] (Nat.le_of_ble_eq_true rfl) rfl rfl dX11_tries_83 ?_
            refine ts_iconst rfl dX11_tries_85 ?_
            refine tq_istore [tv_R 1, tv_I a1, tv_I a2, tv_I a3, tv_R (td_r g_c 46 (Int.toNat a1)), tv_I r8, tv_I r11, tv_I r13, tv_I 0, tv_U, tv_U, tv_U] (Nat.le_of_ble_eq_true rfl) rfl rfl dX11_tries_86 ?_
            refine ts_bipush rfl dX11_tries_88 ?_
            refine tq_istore [tv_R 1, tv_I a1, tv_I a2, tv_I a3, tv_R (td_r g_c 46 (Int.toNat a1)), tv_I r8, tv_I r11, tv_I r13, tv_I 0, tv_I ((-2)), tv_U, tv_U] (Nat.le_of_ble_eq_true rfl) rfl rfl dX11_tries_90 ?_
            refine ts_bipush rfl dX11_tries_92 ?_
            refine tq_istore [tv_R 1, tv_I a1, tv_I a2, tv_I a3, tv_R (td_r g_c 46 (Int.toNat a1)), tv_I r8, tv_I r11, tv_I r13, tv_I 0, tv_I ((-2)), tv_I ((-2)), tv_U] (Nat.le_of_ble_eq_true rfl) rfl rfl dX11_tries_94 ?_
            refine ts_iconst rfl dX11_tries_96 ?_
            refine tq_istore [tv_R 1, tv_I a1, tv_I a2, tv_I a3, tv_R (td_r g_c 46 (Int.toNat a1)), tv_I r8, tv_I r11, tv_I r13, tv_I 0, tv_I ((-2)), tv_I ((-2)), tv_I 0] (Nat.le_of_ble_eq_true rfl) rfl rfl dX11_tries_97 ?_
            refine tv_weak (ls' := [tv_R 1, tv_U, tv_U, tv_I a3, tv_U, tv_U, tv_I r11, tv_I r13, tv_I 0, tv_I ((-2)), tv_I ((-2)), tv_I 0]) ⟨Or.inr rfl, Or.inl rfl, Or.inl rfl, Or.inr rfl, Or.inl rfl, Or.inl rfl, Or.inr rfl, Or.inr rfl, Or.inr rfl, Or.inr rfl, Or.inr rfl, Or.inr rfl, trivial⟩ ?_
            exact S_X11_tries_99 hE d tf_N a3 r11 r13 0 ((-2)) ((-2)) 0 D14
          · refine ts_iload rfl dX11_tries_50 ?_
            exact td_iret rfl dX11_tries_52
        · refine ts_iconst rfl dX11_tries_27 ?_
          exact td_iret rfl dX11_tries_28
def F_X11_amountsThatSting_6 : Nat → Int → Int → Int → Int → Int → td_D → Option (Int × td_D)
  | 0, _, _, _, _, _, _ => none
  | n + 1, v1, v2, v3, v4, v5, D =>
    if 99 < v5 then
      some (v4, D)
    else
      td_b (F_X11_makesAllSo v5 v2 v3 D) fun r1 D2 =>
      if r1 = 0 then
        F_X11_amountsThatSting_6 n v1 v2 v3 v4 (tv_w (v5 + 1)) D2
      else
        td_b (F_X3_farOf v5 D2) fun r3 D4 =>
        if r3 < v1 then
          F_X11_amountsThatSting_6 n v1 v2 v3 v4 (tv_w (v5 + 1)) D4
        else
          F_X11_amountsThatSting_6 n v1 v2 v3 (tv_w (v4 + 1)) (tv_w (v5 + 1)) D4
set_option maxHeartbeats 4000000 in
set_option maxRecDepth 20000 in
theorem S_X11_amountsThatSting_6 {l : Launch} {E : tv_E} (hE : tv_hE E) (d : Nat) : ∀ (n : Nat) (v1 : Int) (v2 : Int) (v3 : Int) (v4 : Int) (v5 : Int) (D : td_D), td_sim l E (d + 2) mX11_amountsThatSting g_c 6 [tv_R 1, tv_I v1, tv_I v2, tv_I v3, tv_I v4, tv_I v5] [] D (F_X11_amountsThatSting_6 n v1 v2 v3 v4 v5 D) := by
  intro n
  induction n with
  | zero => intros; exact tv_none
  | succ n ih =>
    intro v1 v2 v3 v4 v5 D
    show td_sim _ _ _ _ _ _ _ _ _ (F_X11_amountsThatSting_6 (n + 1) v1 v2 v3 v4 v5 D)
    unfold F_X11_amountsThatSting_6
    refine ts_iload rfl dX11_amountsThatSting_6 ?_
    refine ts_bipush rfl dX11_amountsThatSting_8 ?_
    refine td_icmp_gt (tgt := 46) rfl dX11_amountsThatSting_10 ?_ ?_
    · refine ts_iload rfl dX11_amountsThatSting_46 ?_
      exact td_iret rfl dX11_amountsThatSting_48
    · refine ts_aload_n (i := 0) rfl rfl dX11_amountsThatSting_13 ?_
      refine ts_iload rfl dX11_amountsThatSting_14 ?_
      refine ts_iload_n (i := 2) rfl rfl dX11_amountsThatSting_16 ?_
      refine ts_iload_n (i := 3) rfl rfl dX11_amountsThatSting_17 ?_
      refine tq_callV (y2 := mX11_makesAllSo) [tv_I v5, tv_I v2, tv_I v3] [] 1 (st' := fun r1 => [tv_I r1]) tw_X11_makesAllSo tx_X11_makesAllSo tw_c11 ga_c_1 tl_X11_299 rfl rfl rfl rfl (fun _ => rfl) dX11_amountsThatSting_18 (S_X11_makesAllSo l hE _ v5 v2 v3 D) (fun r1 D2 => ?_)
      refine td_if_eq (tgt := 40) rfl dX11_amountsThatSting_21 ?_ ?_
      · refine tq_iinc [tv_R 1, tv_I v1, tv_I v2, tv_I v3, tv_I v4, tv_I (tv_w (v5 + 1))] rfl rfl rfl dX11_amountsThatSting_40 ?_
        refine ts_goto (tgt := 6) rfl dX11_amountsThatSting_43 ?_
        exact ih v1 v2 v3 v4 (tv_w (v5 + 1)) D2
      · refine ts_aload_n (i := 0) rfl rfl dX11_amountsThatSting_24 ?_
        refine td_getR (q := 2) tl_X11_12 rfl ga_c_1 rfl dX11_amountsThatSting_25 ?_
        refine ts_iload rfl dX11_amountsThatSting_28 ?_
        refine tq_callV (y2 := mX3_farOf) [tv_I v5] [] 2 (st' := fun r3 => [tv_I r3]) tw_X3_farOf tx_X3_farOf tw_c3 ga_c_2 tl_X11_222 rfl rfl rfl rfl (fun _ => rfl) dX11_amountsThatSting_30 (S_X3_farOf l hE _ v5 D2) (fun r3 D4 => ?_)
        refine ts_iload_n (i := 1) rfl rfl dX11_amountsThatSting_33 ?_
        refine td_icmp_lt (tgt := 40) rfl dX11_amountsThatSting_34 ?_ ?_
        · refine tq_iinc [tv_R 1, tv_I v1, tv_I v2, tv_I v3, tv_I v4, tv_I (tv_w (v5 + 1))] rfl rfl rfl dX11_amountsThatSting_40 ?_
          refine ts_goto (tgt := 6) rfl dX11_amountsThatSting_43 ?_
          exact ih v1 v2 v3 v4 (tv_w (v5 + 1)) D4
        · refine tq_iinc [tv_R 1, tv_I v1, tv_I v2, tv_I v3, tv_I (tv_w (v4 + 1)), tv_I v5] rfl rfl rfl dX11_amountsThatSting_37 ?_
          refine tq_iinc [tv_R 1, tv_I v1, tv_I v2, tv_I v3, tv_I (tv_w (v4 + 1)), tv_I (tv_w (v5 + 1))] rfl rfl rfl dX11_amountsThatSting_40 ?_
          refine ts_goto (tgt := 6) rfl dX11_amountsThatSting_43 ?_
          exact ih v1 v2 v3 (tv_w (v4 + 1)) (tv_w (v5 + 1)) D4
def F_X11_amountsThatSting (a1 : Int) (a2 : Int) (a3 : Int) (D : td_D) : Option (Int × td_D) :=
  F_X11_amountsThatSting_6 tf_N a1 a2 a3 0 0 D
set_option maxHeartbeats 4000000 in
set_option maxRecDepth 20000 in
theorem S_X11_amountsThatSting (l : Launch) {E : tv_E} (hE : tv_hE E) (d : Nat) (a1 : Int) (a2 : Int) (a3 : Int) (D : td_D) : td_msim l E (d + 2) mX11_amountsThatSting g_c [tv_R 1, tv_I a1, tv_I a2, tv_I a3] D (F_X11_amountsThatSting a1 a2 a3 D) := by
  refine td_meetL (ls := [tv_R 1, tv_I a1, tv_I a2, tv_I a3, tv_U, tv_U]) rfl (Nat.le_of_ble_eq_true rfl) rfl ?_
  unfold F_X11_amountsThatSting
  refine ts_iconst rfl dX11_amountsThatSting_0 ?_
  refine tq_istore [tv_R 1, tv_I a1, tv_I a2, tv_I a3, tv_I 0, tv_U] (Nat.le_of_ble_eq_true rfl) rfl rfl dX11_amountsThatSting_1 ?_
  refine ts_iconst rfl dX11_amountsThatSting_3 ?_
  refine tq_istore [tv_R 1, tv_I a1, tv_I a2, tv_I a3, tv_I 0, tv_I 0] (Nat.le_of_ble_eq_true rfl) rfl rfl dX11_amountsThatSting_4 ?_
  exact S_X11_amountsThatSting_6 hE d tf_N a1 a2 a3 0 0 D
def F_X11_next_103 : Nat → Int → Int → Int → Int → Int → Int → td_D → Option (Int × td_D)
  | 0, _, _, _, _, _, _, _ => none
  | n + 1, v5, v6, v7, v8, v9, v10, D =>
    if 18 < v10 then
      some (v8, D)
    else
      td_b (F_X11_amountsThatSting v10 v5 v6 D) fun r1 D2 =>
      if v9 ≤ tv_max r1 (tv_w (v7 - r1)) then
        F_X11_next_103 n v5 v6 v7 v8 v9 (tv_w (v10 + 1)) D2
      else
        F_X11_next_103 n v5 v6 v7 v10 (tv_max r1 (tv_w (v7 - r1))) (tv_w (v10 + 1)) D2
set_option maxHeartbeats 4000000 in
set_option maxRecDepth 20000 in
theorem S_X11_next_103 {l : Launch} {E : tv_E} (hE : tv_hE E) (d : Nat) : ∀ (n : Nat) (v5 : Int) (v6 : Int) (v7 : Int) (v8 : Int) (v9 : Int) (v10 : Int) (D : td_D), td_sim l E (d + 4) mX11_next g_c 103 [tv_R 1, tv_U, tv_U, tv_U, tv_U, tv_I v5, tv_I v6, tv_I v7, tv_I v8, tv_I v9, tv_I v10, tv_U, tv_U] [] D (F_X11_next_103 n v5 v6 v7 v8 v9 v10 D) := by
  intro n
  induction n with
  | zero => intros; exact tv_none
  | succ n ih =>
    intro v5 v6 v7 v8 v9 v10 D
    show td_sim _ _ _ _ _ _ _ _ _ (F_X11_next_103 (n + 1) v5 v6 v7 v8 v9 v10 D)
    unfold F_X11_next_103
    refine ts_iload rfl dX11_next_103 ?_
    refine ts_bipush rfl dX11_next_105 ?_
    refine td_icmp_gt (tgt := 155) rfl dX11_next_107 ?_ ?_
    · refine ts_iload rfl dX11_next_155 ?_
      exact td_iret rfl dX11_next_157
    · refine ts_aload_n (i := 0) rfl rfl dX11_next_110 ?_
      refine ts_iload rfl dX11_next_111 ?_
      refine ts_iload rfl dX11_next_113 ?_
      refine ts_iload rfl dX11_next_115 ?_
      refine tq_callV (y2 := mX11_amountsThatSting) [tv_I v10, tv_I v5, tv_I v6] [] 1 (st' := fun r1 => [tv_I r1]) tw_X11_amountsThatSting tx_X11_amountsThatSting tw_c11 ga_c_1 tl_X11_302 rfl rfl rfl rfl (fun _ => rfl) dX11_next_117 (S_X11_amountsThatSting l hE _ v10 v5 v6 D) (fun r1 D2 => ?_)
      refine tq_istore [tv_R 1, tv_U, tv_U, tv_U, tv_U, tv_I v5, tv_I v6, tv_I v7, tv_I v8, tv_I v9, tv_I v10, tv_I r1, tv_U] (Nat.le_of_ble_eq_true rfl) rfl rfl dX11_next_120 ?_
      refine ts_iload rfl dX11_next_122 ?_
      refine ts_iload rfl dX11_next_124 ?_
      refine ts_iload rfl dX11_next_126 ?_
      refine ts_isub dX11_next_128 ?_
      refine ts_mmax rfl rfl tl_X11_219 dX11_next_129 ?_
      refine tq_istore [tv_R 1, tv_U, tv_U, tv_U, tv_U, tv_I v5, tv_I v6, tv_I v7, tv_I v8, tv_I v9, tv_I v10, tv_I r1, tv_I (tv_max r1 (tv_w (v7 - r1)))] (Nat.le_of_ble_eq_true rfl) rfl rfl dX11_next_132 ?_
      refine ts_iload rfl dX11_next_134 ?_
      refine ts_iload rfl dX11_next_136 ?_
      refine td_icmp_ge (tgt := 149) rfl dX11_next_138 ?_ ?_
      · refine tq_iinc [tv_R 1, tv_U, tv_U, tv_U, tv_U, tv_I v5, tv_I v6, tv_I v7, tv_I v8, tv_I v9, tv_I (tv_w (v10 + 1)), tv_I r1, tv_I (tv_max r1 (tv_w (v7 - r1)))] rfl rfl rfl dX11_next_149 ?_
        refine ts_goto (tgt := 103) rfl dX11_next_152 ?_
        refine tv_weak (ls' := [tv_R 1, tv_U, tv_U, tv_U, tv_U, tv_I v5, tv_I v6, tv_I v7, tv_I v8, tv_I v9, tv_I (tv_w (v10 + 1)), tv_U, tv_U]) ⟨Or.inr rfl, Or.inl rfl, Or.inl rfl, Or.inl rfl, Or.inl rfl, Or.inr rfl, Or.inr rfl, Or.inr rfl, Or.inr rfl, Or.inr rfl, Or.inr rfl, Or.inl rfl, Or.inl rfl, trivial⟩ ?_
        exact ih v5 v6 v7 v8 v9 (tv_w (v10 + 1)) D2
      · refine ts_iload rfl dX11_next_141 ?_
        refine tq_istore [tv_R 1, tv_U, tv_U, tv_U, tv_U, tv_I v5, tv_I v6, tv_I v7, tv_I v10, tv_I v9, tv_I v10, tv_I r1, tv_I (tv_max r1 (tv_w (v7 - r1)))] (Nat.le_of_ble_eq_true rfl) rfl rfl dX11_next_143 ?_
        refine ts_iload rfl dX11_next_145 ?_
        refine tq_istore [tv_R 1, tv_U, tv_U, tv_U, tv_U, tv_I v5, tv_I v6, tv_I v7, tv_I v10, tv_I (tv_max r1 (tv_w (v7 - r1))), tv_I v10, tv_I r1, tv_I (tv_max r1 (tv_w (v7 - r1)))] (Nat.le_of_ble_eq_true rfl) rfl rfl dX11_next_147 ?_
        refine tq_iinc [tv_R 1, tv_U, tv_U, tv_U, tv_U, tv_I v5, tv_I v6, tv_I v7, tv_I v10, tv_I (tv_max r1 (tv_w (v7 - r1))), tv_I (tv_w (v10 + 1)), tv_I r1, tv_I (tv_max r1 (tv_w (v7 - r1)))] rfl rfl rfl dX11_next_149 ?_
        refine ts_goto (tgt := 103) rfl dX11_next_152 ?_
        refine tv_weak (ls' := [tv_R 1, tv_U, tv_U, tv_U, tv_U, tv_I v5, tv_I v6, tv_I v7, tv_I v10, tv_I (tv_max r1 (tv_w (v7 - r1))), tv_I (tv_w (v10 + 1)), tv_U, tv_U]) ⟨Or.inr rfl, Or.inl rfl, Or.inl rfl, Or.inl rfl, Or.inl rfl, Or.inr rfl, Or.inr rfl, Or.inr rfl, Or.inr rfl, Or.inr rfl, Or.inr rfl, Or.inl rfl, Or.inl rfl, trivial⟩ ?_
        exact ih v5 v6 v7 v10 (tv_max r1 (tv_w (v7 - r1))) (tv_w (v10 + 1)) D2
def F_X11_next (a1 : Int) (a2 : Int) (D : td_D) : Option (Int × td_D) :=
  td_b (F_X11_isShelf a1 D) fun r3 D4 =>
  if r3 = 0 then
    some ((-1), D4)
  else
    td_b (F_X3_isHive a2 D4) fun r5 D6 =>
    if r5 = 0 then
      some ((-1), D6)
    else
      if 0 ≤ a1 ∧ a1 < ((6 : Nat) : Int) then
        td_b (F_X11_refusal (td_r g_c 46 (Int.toNat a1)) 0 D6) fun r8 D9 =>
        if r8 = 0 then
          if 0 ≤ a2 ∧ a2 < ((5 : Nat) : Int) then
            td_b (F_X11_farthestStung (td_r g_c 46 (Int.toNat a1)) (D9 4 (Int.toNat a2)) D9) fun r11 D12 =>
            td_b (F_X11_nearestSafe (td_r g_c 46 (Int.toNat a1)) (D12 4 (Int.toNat a2)) D12) fun r13 D14 =>
            td_b (F_X11_amountsThatSting ((-1)) r11 r13 D14) fun r15 D16 =>
            if r15 = 0 then
              some ((-2), D16)
            else
              F_X11_next_103 tf_N r11 r13 r15 0 (tv_w (r15 + 1)) 0 D16
          else none
        else
          some (r8, D9)
      else none
set_option maxHeartbeats 4000000 in
set_option maxRecDepth 20000 in
theorem S_X11_next (l : Launch) {E : tv_E} (hE : tv_hE E) (d : Nat) (a1 : Int) (a2 : Int) (D : td_D) : td_msim l E (d + 4) mX11_next g_c [tv_R 1, tv_I a1, tv_I a2] D (F_X11_next a1 a2 D) := by
  refine td_meetL (ls := [tv_R 1, tv_I a1, tv_I a2, tv_U, tv_U, tv_U, tv_U, tv_U, tv_U, tv_U, tv_U, tv_U, tv_U]) rfl (Nat.le_of_ble_eq_true rfl) rfl ?_
  unfold F_X11_next
  refine ts_iload_n (i := 1) rfl rfl dX11_next_0 ?_
  refine tq_callS (y2 := mX11_isShelf) [tv_I a1] [] (st' := fun r3 => [tv_I r3]) tw_X11_isShelf tx_X11_isShelf tl_X11_131 rfl rfl rfl rfl (fun _ => rfl) dX11_next_1 (S_X11_isShelf l hE _ a1 D) (fun r3 D4 => ?_)
  refine td_if_eq (tgt := 18) rfl dX11_next_4 ?_ ?_
  · refine ts_iconst rfl dX11_next_18 ?_
    exact td_iret rfl dX11_next_19
  · refine ts_aload_n (i := 0) rfl rfl dX11_next_7 ?_
    refine td_getR (q := 2) tl_X11_12 rfl ga_c_1 rfl dX11_next_8 ?_
    refine ts_iload_n (i := 2) rfl rfl dX11_next_11 ?_
    refine tq_callV (y2 := mX3_isHive) [tv_I a2] [] 2 (st' := fun r5 => [tv_I r5]) tw_X3_isHive tx_X3_isHive tw_c3 ga_c_2 tl_X11_169 rfl rfl rfl rfl (fun _ => rfl) dX11_next_12 (S_X3_isHive l hE _ a2 D4) (fun r5 D6 => ?_)
    refine td_if_ne (tgt := 20) rfl dX11_next_15 ?_ ?_
    · refine ts_iconst rfl dX11_next_18 ?_
      exact td_iret rfl dX11_next_19
    · refine ts_aload_n (i := 0) rfl rfl dX11_next_20 ?_
      refine td_getR (q := 46) tl_X11_94 rfl ga_c_1 rfl dX11_next_21 ?_
      refine ts_iload_n (i := 1) rfl rfl dX11_next_24 ?_
      refine td_guard (fun h7 => ?_)
      refine td_aaldK ga_c_46 (by decide) h7 dX11_next_25 ?_
      refine tq_astore_n [tv_R 1, tv_I a1, tv_I a2, tv_R (td_r g_c 46 (Int.toNat a1)), tv_U, tv_U, tv_U, tv_U, tv_U, tv_U, tv_U, tv_U, tv_U] rfl (Nat.le_of_ble_eq_true rfl) rfl (shelf_pos (is_shelf_of h7)) rfl dX11_next_26 ?_
      refine ts_aload_n (i := 3) rfl rfl dX11_next_27 ?_
      refine ts_iconst rfl dX11_next_28 ?_
      refine tq_callS (y2 := mX11_refusal) [tv_R (td_r g_c 46 (Int.toNat a1)), tv_I 0] [] (st' := fun r8 => [tv_I r8]) tw_X11_refusal tx_X11_refusal tl_X11_240 rfl rfl rfl rfl (fun _ => rfl) dX11_next_29 (S_X11_refusal l hE _ (td_r g_c 46 (Int.toNat a1)) 0 (is_shelf_of h7) D6) (fun r8 D9 => ?_)
      refine tq_istore [tv_R 1, tv_I a1, tv_I a2, tv_R (td_r g_c 46 (Int.toNat a1)), tv_I r8, tv_U, tv_U, tv_U, tv_U, tv_U, tv_U, tv_U, tv_U] (Nat.le_of_ble_eq_true rfl) rfl rfl dX11_next_32 ?_
      refine ts_iload rfl dX11_next_34 ?_
      refine td_if_eq (tgt := 42) rfl dX11_next_36 ?_ ?_
      · refine ts_aload_n (i := 3) rfl rfl dX11_next_42 ?_
        refine ts_aload_n (i := 0) rfl rfl dX11_next_43 ?_
        refine td_getR (q := 2) tl_X11_12 rfl ga_c_1 rfl dX11_next_44 ?_
        refine td_getR (q := 4) tl_X11_290 rfl ga_c_2 rfl dX11_next_47 ?_
        refine ts_iload_n (i := 2) rfl rfl dX11_next_50 ?_
        refine td_guard (fun h10 => ?_)
        refine td_ialdK ga_c_4 (gn_c_4 _) h10 dX11_next_51 ?_
        refine tq_callS (y2 := mX11_farthestStung) [tv_R (td_r g_c 46 (Int.toNat a1)), tv_I (D9 4 (Int.toNat a2))] [] (st' := fun r11 => [tv_I r11]) tw_X11_farthestStung tx_X11_farthestStung tl_X11_293 rfl rfl rfl rfl (fun _ => rfl) dX11_next_52 (S_X11_farthestStung l hE _ (td_r g_c 46 (Int.toNat a1)) (D9 4 (Int.toNat a2)) (is_shelf_of h7) D9) (fun r11 D12 => ?_)
        refine tq_istore [tv_R 1, tv_I a1, tv_I a2, tv_R (td_r g_c 46 (Int.toNat a1)), tv_I r8, tv_I r11, tv_U, tv_U, tv_U, tv_U, tv_U, tv_U, tv_U] (Nat.le_of_ble_eq_true rfl) rfl rfl dX11_next_55 ?_
        refine ts_aload_n (i := 3) rfl rfl dX11_next_57 ?_
        refine ts_aload_n (i := 0) rfl rfl dX11_next_58 ?_
        refine td_getR (q := 2) tl_X11_12 rfl ga_c_1 rfl dX11_next_59 ?_
        refine td_getR (q := 4) tl_X11_290 rfl ga_c_2 rfl dX11_next_62 ?_
        refine ts_iload_n (i := 2) rfl rfl dX11_next_65 ?_
        refine td_ialdK ga_c_4 (gn_c_4 _) h10 dX11_next_66 ?_
        refine tq_callS (y2 := mX11_nearestSafe) [tv_R (td_r g_c 46 (Int.toNat a1)), tv_I (D12 4 (Int.toNat a2))] [] (st' := fun r13 => [tv_I r13]) tw_X11_nearestSafe tx_X11_nearestSafe tl_X11_296 rfl rfl rfl rfl (fun _ => rfl) dX11_next_67 (S_X11_nearestSafe l hE _ (td_r g_c 46 (Int.toNat a1)) (D12 4 (Int.toNat a2)) (is_shelf_of h7) D12) (fun r13 D14 => ?_)
        refine tq_istore [tv_R 1, tv_I a1, tv_I a2, tv_R (td_r g_c 46 (Int.toNat a1)), tv_I r8, tv_I r11, tv_I r13, tv_U, tv_U, tv_U, tv_U, tv_U, tv_U] (Nat.le_of_ble_eq_true rfl) rfl rfl dX11_next_70 ?_
        refine ts_aload_n (i := 0) rfl rfl dX11_next_72 ?_
        refine ts_iconst rfl dX11_next_73 ?_
        refine ts_iload rfl dX11_next_74 ?_
        refine ts_iload rfl dX11_next_76 ?_
        refine tq_callV (y2 := mX11_amountsThatSting) [tv_I ((-1)), tv_I r11, tv_I r13] [] 1 (st' := fun r15 => [tv_I r15]) tw_X11_amountsThatSting tx_X11_amountsThatSting tw_c11 ga_c_1 tl_X11_302 rfl rfl rfl rfl (fun _ => rfl) dX11_next_78 (S_X11_amountsThatSting l hE _ ((-1)) r11 r13 D14) (fun r15 D16 => ?_)
        refine tq_istore [tv_R 1, tv_I a1, tv_I a2, tv_R (td_r g_c 46 (Int.toNat a1)), tv_I r8, tv_I r11, tv_I r13, tv_I r15, tv_U, tv_U, tv_U, tv_U, tv_U] (Nat.le_of_ble_eq_true rfl) rfl rfl dX11_next_81 ?_
        refine ts_iload rfl dX11_next_83 ?_
        refine td_if_ne (tgt := 91) rfl dX11_next_85 ?_ ?_
        · refine ts_bipush rfl dX11_next_88 ?_
          exact td_iret rfl dX11_next_90
        · refine ts_iconst rfl dX11_next_91 ?_
          refine tq_istore [tv_R 1, tv_I a1, tv_I a2, tv_R (td_r g_c 46 (Int.toNat a1)), tv_I r8, tv_I r11, tv_I r13, tv_I r15, tv_I 0, tv_U, tv_U, tv_U, tv_U] (Nat.le_of_ble_eq_true rfl) rfl rfl dX11_next_92 ?_
          refine ts_iload rfl dX11_next_94 ?_
          refine ts_iconst rfl dX11_next_96 ?_
          refine ts_iadd dX11_next_97 ?_
          refine tq_istore [tv_R 1, tv_I a1, tv_I a2, tv_R (td_r g_c 46 (Int.toNat a1)), tv_I r8, tv_I r11, tv_I r13, tv_I r15, tv_I 0, tv_I (tv_w (r15 + 1)), tv_U, tv_U, tv_U] (Nat.le_of_ble_eq_true rfl) rfl rfl dX11_next_98 ?_
          refine ts_iconst rfl dX11_next_100 ?_
          refine tq_istore [tv_R 1, tv_I a1, tv_I a2, tv_R (td_r g_c 46 (Int.toNat a1)), tv_I r8, tv_I r11, tv_I r13, tv_I r15, tv_I 0, tv_I (tv_w (r15 + 1)), tv_I 0, tv_U, tv_U] (Nat.le_of_ble_eq_true rfl) rfl rfl dX11_next_101 ?_
          refine tv_weak (ls' := [tv_R 1, tv_U, tv_U, tv_U, tv_U, tv_I r11, tv_I r13, tv_I r15, tv_I 0, tv_I (tv_w (r15 + 1)), tv_I 0, tv_U, tv_U]) ⟨Or.inr rfl, Or.inl rfl, Or.inl rfl, Or.inl rfl, Or.inl rfl, Or.inr rfl, Or.inr rfl, Or.inr rfl, Or.inr rfl, Or.inr rfl, Or.inr rfl, Or.inl rfl, Or.inl rfl, trivial⟩ ?_
          exact S_X11_next_103 hE d tf_N r11 r13 r15 0 (tv_w (r15 + 1)) 0 D16
      · refine ts_iload rfl dX11_next_39 ?_
        exact td_iret rfl dX11_next_41
