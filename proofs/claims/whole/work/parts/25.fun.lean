def F_X12_gives_7 : Nat → Int → Int → Int → td_D → Option (Int × td_D)
  | 0, _, _, _, _ => none
  | n + 1, v1, v2, v3, D =>
    if 0 ≤ v1 ∧ v1 < ((2 : Nat) : Int) then
      if tv_w ((tv_w (61 * v1)) + (D 16 (Int.toNat v1))) ≤ v3 then
        some (0, D)
      else
        if 0 ≤ v3 ∧ v3 < ((122 : Nat) : Int) then
          if D 17 (Int.toNat v3) = v2 then
            td_b (F_X12_worked v1 (D 17 (Int.toNat v3)) (D 18 (Int.toNat v3)) D) fun r3 D4 =>
            some (r3, D4)
          else
            td_b (F_X12_worked v1 v2 (D 17 (Int.toNat v3)) D) fun r5 D6 =>
            if r5 = 0 then
              F_X12_gives_7 n v1 (D6 18 (Int.toNat v3)) (tv_w (v3 + 1)) D6
            else
              td_b (F_X12_worked v1 (D6 17 (Int.toNat v3)) (D6 18 (Int.toNat v3)) D6) fun r7 D8 =>
              some (r7, D8)
        else none
    else none
set_option maxHeartbeats 4000000 in
set_option maxRecDepth 20000 in
theorem S_X12_gives_7 {l : Launch} {E : tv_E} (hE : tv_hE E) (d : Nat) : ∀ (n : Nat) (v1 : Int) (v2 : Int) (v3 : Int) (D : td_D), td_sim l E (d + 2) mX12_gives g_m 7 [tv_R 1, tv_I v1, tv_I v2, tv_I v3] [] D (F_X12_gives_7 n v1 v2 v3 D) := by
  intro n
  induction n with
  | zero => intros; exact tv_none
  | succ n ih =>
    intro v1 v2 v3 D
    show td_sim _ _ _ _ _ _ _ _ _ (F_X12_gives_7 (n + 1) v1 v2 v3 D)
    unfold F_X12_gives_7
    refine ts_iload_n (i := 3) rfl rfl dX12_gives_7 ?_
    refine ts_bipush rfl dX12_gives_8 ?_
    refine ts_iload_n (i := 1) rfl rfl dX12_gives_10 ?_
    refine ts_imul dX12_gives_11 ?_
    refine ts_aload_n (i := 0) rfl rfl dX12_gives_12 ?_
    refine td_getR (q := 16) tl_X12_53 rfl ga_m_1 rfl dX12_gives_13 ?_
    refine ts_iload_n (i := 1) rfl rfl dX12_gives_16 ?_
    refine td_guard (fun h1 => ?_)
    refine td_ialdK ga_m_16 (gn_m_16 _) h1 dX12_gives_17 ?_
    refine ts_iadd dX12_gives_18 ?_
    refine td_icmp_ge (tgt := 78) rfl dX12_gives_19 ?_ ?_
    · refine ts_iconst rfl dX12_gives_78 ?_
      exact td_iret rfl dX12_gives_79
    · refine ts_aload_n (i := 0) rfl rfl dX12_gives_22 ?_
      refine td_getR (q := 17) tl_X12_56 rfl ga_m_1 rfl dX12_gives_23 ?_
      refine ts_iload_n (i := 3) rfl rfl dX12_gives_26 ?_
      refine td_guard (fun h2 => ?_)
      refine td_saldK ga_m_17 (gn_m_17 _) h2 dX12_gives_27 ?_
      refine ts_iload_n (i := 2) rfl rfl dX12_gives_28 ?_
      refine td_icmp_eq (tgt := 47) rfl dX12_gives_29 ?_ ?_
      · refine ts_aload_n (i := 0) rfl rfl dX12_gives_47 ?_
        refine ts_iload_n (i := 1) rfl rfl dX12_gives_48 ?_
        refine ts_aload_n (i := 0) rfl rfl dX12_gives_49 ?_
        refine td_getR (q := 17) tl_X12_56 rfl ga_m_1 rfl dX12_gives_50 ?_
        refine ts_iload_n (i := 3) rfl rfl dX12_gives_53 ?_
        refine td_saldK ga_m_17 (gn_m_17 _) h2 dX12_gives_54 ?_
        refine ts_aload_n (i := 0) rfl rfl dX12_gives_55 ?_
        refine td_getR (q := 18) tl_X12_60 rfl ga_m_1 rfl dX12_gives_56 ?_
        refine ts_iload_n (i := 3) rfl rfl dX12_gives_59 ?_
        refine td_saldK ga_m_18 (gn_m_18 _) h2 dX12_gives_60 ?_
        refine tq_callV (y2 := mX12_worked) [tv_I v1, tv_I (D 17 (Int.toNat v3)), tv_I (D 18 (Int.toNat v3))] [] 1 (st' := fun r3 => [tv_I r3]) tw_X12_worked tx_X12_worked tw_c12 ga_m_1 tl_X12_267 rfl rfl rfl rfl (fun _ => rfl) dX12_gives_61 (S_X12_worked l hE _ v1 (D 17 (Int.toNat v3)) (D 18 (Int.toNat v3)) D) (fun r3 D4 => ?_)
        exact td_iret rfl dX12_gives_64
      · refine ts_aload_n (i := 0) rfl rfl dX12_gives_32 ?_
        refine ts_iload_n (i := 1) rfl rfl dX12_gives_33 ?_
        refine ts_iload_n (i := 2) rfl rfl dX12_gives_34 ?_
        refine ts_aload_n (i := 0) rfl rfl dX12_gives_35 ?_
        refine td_getR (q := 17) tl_X12_56 rfl ga_m_1 rfl dX12_gives_36 ?_
        refine ts_iload_n (i := 3) rfl rfl dX12_gives_39 ?_
        refine td_saldK ga_m_17 (gn_m_17 _) h2 dX12_gives_40 ?_
        refine tq_callV (y2 := mX12_worked) [tv_I v1, tv_I v2, tv_I (D 17 (Int.toNat v3))] [] 1 (st' := fun r5 => [tv_I r5]) tw_X12_worked tx_X12_worked tw_c12 ga_m_1 tl_X12_267 rfl rfl rfl rfl (fun _ => rfl) dX12_gives_41 (S_X12_worked l hE _ v1 v2 (D 17 (Int.toNat v3)) D) (fun r5 D6 => ?_)
        refine td_if_eq (tgt := 65) rfl dX12_gives_44 ?_ ?_
        · refine ts_aload_n (i := 0) rfl rfl dX12_gives_65 ?_
          refine td_getR (q := 18) tl_X12_60 rfl ga_m_1 rfl dX12_gives_66 ?_
          refine ts_iload_n (i := 3) rfl rfl dX12_gives_69 ?_
          refine td_saldK ga_m_18 (gn_m_18 _) h2 dX12_gives_70 ?_
          refine tq_istore_n [tv_R 1, tv_I v1, tv_I (D6 18 (Int.toNat v3)), tv_I v3] rfl (Nat.le_of_ble_eq_true rfl) rfl rfl dX12_gives_71 ?_
          refine tq_iinc [tv_R 1, tv_I v1, tv_I (D6 18 (Int.toNat v3)), tv_I (tv_w (v3 + 1))] rfl rfl rfl dX12_gives_72 ?_
          refine ts_goto (tgt := 7) rfl dX12_gives_75 ?_
          exact ih v1 (D6 18 (Int.toNat v3)) (tv_w (v3 + 1)) D6
        · refine ts_aload_n (i := 0) rfl rfl dX12_gives_47 ?_
          refine ts_iload_n (i := 1) rfl rfl dX12_gives_48 ?_
          refine ts_aload_n (i := 0) rfl rfl dX12_gives_49 ?_
          refine td_getR (q := 17) tl_X12_56 rfl ga_m_1 rfl dX12_gives_50 ?_
          refine ts_iload_n (i := 3) rfl rfl dX12_gives_53 ?_
          refine td_saldK ga_m_17 (gn_m_17 _) h2 dX12_gives_54 ?_
          refine ts_aload_n (i := 0) rfl rfl dX12_gives_55 ?_
          refine td_getR (q := 18) tl_X12_60 rfl ga_m_1 rfl dX12_gives_56 ?_
          refine ts_iload_n (i := 3) rfl rfl dX12_gives_59 ?_
          refine td_saldK ga_m_18 (gn_m_18 _) h2 dX12_gives_60 ?_
          refine tq_callV (y2 := mX12_worked) [tv_I v1, tv_I (D6 17 (Int.toNat v3)), tv_I (D6 18 (Int.toNat v3))] [] 1 (st' := fun r7 => [tv_I r7]) tw_X12_worked tx_X12_worked tw_c12 ga_m_1 tl_X12_267 rfl rfl rfl rfl (fun _ => rfl) dX12_gives_61 (S_X12_worked l hE _ v1 (D6 17 (Int.toNat v3)) (D6 18 (Int.toNat v3)) D6) (fun r7 D8 => ?_)
          exact td_iret rfl dX12_gives_64
def F_X12_gives (a1 : Int) (D : td_D) : Option (Int × td_D) :=
  F_X12_gives_7 tf_N a1 0 (tv_w (61 * a1)) D
set_option maxHeartbeats 4000000 in
set_option maxRecDepth 20000 in
theorem S_X12_gives (l : Launch) {E : tv_E} (hE : tv_hE E) (d : Nat) (a1 : Int) (D : td_D) : td_msim l E (d + 2) mX12_gives g_m [tv_R 1, tv_I a1] D (F_X12_gives a1 D) := by
  refine td_meetL (ls := [tv_R 1, tv_I a1, tv_U, tv_U]) rfl (Nat.le_of_ble_eq_true rfl) rfl ?_
  unfold F_X12_gives
  refine ts_iconst rfl dX12_gives_0 ?_
  refine tq_istore_n [tv_R 1, tv_I a1, tv_I 0, tv_U] rfl (Nat.le_of_ble_eq_true rfl) rfl rfl dX12_gives_1 ?_
  refine ts_bipush rfl dX12_gives_2 ?_
  refine ts_iload_n (i := 1) rfl rfl dX12_gives_4 ?_
  refine ts_imul dX12_gives_5 ?_
  refine tq_istore_n [tv_R 1, tv_I a1, tv_I 0, tv_I (tv_w (61 * a1))] rfl (Nat.le_of_ble_eq_true rfl) rfl rfl dX12_gives_6 ?_
  exact S_X12_gives_7 hE d tf_N a1 0 (tv_w (61 * a1)) D
def F_X12_layNow_2 : Nat → Int → td_D → Option (Int × td_D)
  | 0, _, _ => none
  | n + 1, v1, D =>
    if 30 ≤ v1 then
      some (0, D)
    else
      if 0 ≤ v1 ∧ v1 < ((30 : Nat) : Int) then
        td_l (td_upd D 21 (Int.toNat v1) (D 4 (Int.toNat v1))) fun D2 =>
        F_X12_layNow_2 n (tv_w (v1 + 1)) D2
      else none
set_option maxHeartbeats 4000000 in
set_option maxRecDepth 20000 in
theorem S_X12_layNow_2 {l : Launch} {E : tv_E} (hE : tv_hE E) (d : Nat) : ∀ (n : Nat) (v1 : Int) (D : td_D), td_sim l E (d + 0) mX12_layNow g_m 2 [tv_R 1, tv_I v1] [] D (F_X12_layNow_2 n v1 D) := by
  intro n
  induction n with
  | zero => intros; exact tv_none
  | succ n ih =>
    intro v1 D
    show td_sim _ _ _ _ _ _ _ _ _ (F_X12_layNow_2 (n + 1) v1 D)
    unfold F_X12_layNow_2
    refine ts_iload_n (i := 1) rfl rfl dX12_layNow_2 ?_
    refine ts_bipush rfl dX12_layNow_3 ?_
    refine td_icmp_ge (tgt := 26) rfl dX12_layNow_5 ?_ ?_
    · exact td_vret rfl dX12_layNow_26
    · refine ts_aload_n (i := 0) rfl rfl dX12_layNow_8 ?_
      refine td_getR (q := 21) tl_X12_69 rfl ga_m_1 rfl dX12_layNow_9 ?_
      refine ts_iload_n (i := 1) rfl rfl dX12_layNow_12 ?_
      refine ts_aload_n (i := 0) rfl rfl dX12_layNow_13 ?_
      refine td_getR (q := 4) tl_X12_16 rfl ga_m_1 rfl dX12_layNow_14 ?_
      refine ts_iload_n (i := 1) rfl rfl dX12_layNow_17 ?_
      refine td_guard (fun h1 => ?_)
      refine td_ialdK ga_m_4 (gn_m_4 _) h1 dX12_layNow_18 ?_
      refine td_iastK ga_m_21 (gn_m_21 _) h1 dX12_layNow_19 ?_
      refine td_let (fun D2 => ?_)
      refine tq_iinc [tv_R 1, tv_I (tv_w (v1 + 1))] rfl rfl rfl dX12_layNow_20 ?_
      refine ts_goto (tgt := 2) rfl dX12_layNow_23 ?_
      exact ih (tv_w (v1 + 1)) D2
def F_X12_layNow (D : td_D) : Option (Int × td_D) :=
  F_X12_layNow_2 tf_N 0 D
set_option maxHeartbeats 4000000 in
set_option maxRecDepth 20000 in
theorem S_X12_layNow (l : Launch) {E : tv_E} (hE : tv_hE E) (d : Nat) (D : td_D) : td_msim l E (d + 0) mX12_layNow g_m [tv_R 1] D (F_X12_layNow D) := by
  refine td_meetL (ls := [tv_R 1, tv_U]) rfl (Nat.le_of_ble_eq_true rfl) rfl ?_
  unfold F_X12_layNow
  refine ts_iconst rfl dX12_layNow_0 ?_
  refine tq_istore_n [tv_R 1, tv_I 0] rfl (Nat.le_of_ble_eq_true rfl) rfl rfl dX12_layNow_1 ?_
  exact S_X12_layNow_2 hE d tf_N 0 D
def F_X12_allIn_4 : Nat → Int → Int → Int → td_D → Option (Int × td_D)
  | 0, _, _, _, _ => none
  | n + 1, v1, v2, v3, D =>
    if D 1 1 ≤ v3 then
      some (v2, D)
    else
      if 0 ≤ tv_w ((tv_w (6 * v1)) + v3) ∧ tv_w ((tv_w (6 * v1)) + v3) < ((30 : Nat) : Int) then
        F_X12_allIn_4 n v1 (tv_w (v2 + (D 21 (Int.toNat (tv_w ((tv_w (6 * v1)) + v3)))))) (tv_w (v3 + 1)) D
      else none
set_option maxHeartbeats 4000000 in
set_option maxRecDepth 20000 in
theorem S_X12_allIn_4 {l : Launch} {E : tv_E} (hE : tv_hE E) (d : Nat) : ∀ (n : Nat) (v1 : Int) (v2 : Int) (v3 : Int) (D : td_D), td_sim l E (d + 0) mX12_allIn g_m 4 [tv_R 1, tv_I v1, tv_I v2, tv_I v3] [] D (F_X12_allIn_4 n v1 v2 v3 D) := by
  intro n
  induction n with
  | zero => intros; exact tv_none
  | succ n ih =>
    intro v1 v2 v3 D
    show td_sim _ _ _ _ _ _ _ _ _ (F_X12_allIn_4 (n + 1) v1 v2 v3 D)
    unfold F_X12_allIn_4
    refine ts_iload_n (i := 3) rfl rfl dX12_allIn_4 ?_
    refine ts_aload_n (i := 0) rfl rfl dX12_allIn_5 ?_
    refine td_getI tl_X12_139 rfl ga_m_1 rfl dX12_allIn_6 ?_
    refine td_icmp_ge (tgt := 32) rfl dX12_allIn_9 ?_ ?_
    · refine ts_iload_n (i := 2) rfl rfl dX12_allIn_32 ?_
      exact td_iret rfl dX12_allIn_33
    · refine ts_iload_n (i := 2) rfl rfl dX12_allIn_12 ?_
      refine ts_aload_n (i := 0) rfl rfl dX12_allIn_13 ?_
      refine td_getR (q := 21) tl_X12_69 rfl ga_m_1 rfl dX12_allIn_14 ?_
      refine ts_bipush rfl dX12_allIn_17 ?_
      refine ts_iload_n (i := 1) rfl rfl dX12_allIn_19 ?_
      refine ts_imul dX12_allIn_20 ?_
      refine ts_iload_n (i := 3) rfl rfl dX12_allIn_21 ?_
      refine ts_iadd dX12_allIn_22 ?_
      refine td_guard (fun h1 => ?_)
      refine td_ialdK ga_m_21 (gn_m_21 _) h1 dX12_allIn_23 ?_
      refine ts_iadd dX12_allIn_24 ?_
      refine tq_istore_n [tv_R 1, tv_I v1, tv_I (tv_w (v2 + (D 21 (Int.toNat (tv_w ((tv_w (6 * v1)) + v3)))))), tv_I v3] rfl (Nat.le_of_ble_eq_true rfl) rfl rfl dX12_allIn_25 ?_
      refine tq_iinc [tv_R 1, tv_I v1, tv_I (tv_w (v2 + (D 21 (Int.toNat (tv_w ((tv_w (6 * v1)) + v3)))))), tv_I (tv_w (v3 + 1))] rfl rfl rfl dX12_allIn_26 ?_
      refine ts_goto (tgt := 4) rfl dX12_allIn_29 ?_
      exact ih v1 (tv_w (v2 + (D 21 (Int.toNat (tv_w ((tv_w (6 * v1)) + v3)))))) (tv_w (v3 + 1)) D
def F_X12_allIn (a1 : Int) (D : td_D) : Option (Int × td_D) :=
  F_X12_allIn_4 tf_N a1 0 0 D
set_option maxHeartbeats 4000000 in
set_option maxRecDepth 20000 in
theorem S_X12_allIn (l : Launch) {E : tv_E} (hE : tv_hE E) (d : Nat) (a1 : Int) (D : td_D) : td_msim l E (d + 0) mX12_allIn g_m [tv_R 1, tv_I a1] D (F_X12_allIn a1 D) := by
  refine td_meetL (ls := [tv_R 1, tv_I a1, tv_U, tv_U]) rfl (Nat.le_of_ble_eq_true rfl) rfl ?_
  unfold F_X12_allIn
  refine ts_iconst rfl dX12_allIn_0 ?_
  refine tq_istore_n [tv_R 1, tv_I a1, tv_I 0, tv_U] rfl (Nat.le_of_ble_eq_true rfl) rfl rfl dX12_allIn_1 ?_
  refine ts_iconst rfl dX12_allIn_2 ?_
  refine tq_istore_n [tv_R 1, tv_I a1, tv_I 0, tv_I 0] rfl (Nat.le_of_ble_eq_true rfl) rfl rfl dX12_allIn_3 ?_
  exact S_X12_allIn_4 hE d tf_N a1 0 0 D
def F_X12_keepers_4 : Nat → Int → Int → Int → td_D → Option (Int × td_D)
  | 0, _, _, _, _ => none
  | n + 1, v1, v2, v3, D =>
    if D 1 1 ≤ v3 then
      some (v2, D)
    else
      if 0 ≤ tv_w ((tv_w (6 * v1)) + v3) ∧ tv_w ((tv_w (6 * v1)) + v3) < ((30 : Nat) : Int) then
        if D 21 (Int.toNat (tv_w ((tv_w (6 * v1)) + v3))) ≤ 0 then
          F_X12_keepers_4 n v1 v2 (tv_w (v3 + 1)) D
        else
          F_X12_keepers_4 n v1 (tv_w (v2 + 1)) (tv_w (v3 + 1)) D
      else none
set_option maxHeartbeats 4000000 in
set_option maxRecDepth 20000 in
theorem S_X12_keepers_4 {l : Launch} {E : tv_E} (hE : tv_hE E) (d : Nat) : ∀ (n : Nat) (v1 : Int) (v2 : Int) (v3 : Int) (D : td_D), td_sim l E (d + 0) mX12_keepers g_m 4 [tv_R 1, tv_I v1, tv_I v2, tv_I v3] [] D (F_X12_keepers_4 n v1 v2 v3 D) := by
  intro n
  induction n with
  | zero => intros; exact tv_none
  | succ n ih =>
    intro v1 v2 v3 D
    show td_sim _ _ _ _ _ _ _ _ _ (F_X12_keepers_4 (n + 1) v1 v2 v3 D)
    unfold F_X12_keepers_4
    refine ts_iload_n (i := 3) rfl rfl dX12_keepers_4 ?_
    refine ts_aload_n (i := 0) rfl rfl dX12_keepers_5 ?_
    refine td_getI tl_X12_139 rfl ga_m_1 rfl dX12_keepers_6 ?_
    refine td_icmp_ge (tgt := 35) rfl dX12_keepers_9 ?_ ?_
    · refine ts_iload_n (i := 2) rfl rfl dX12_keepers_35 ?_
      exact td_iret rfl dX12_keepers_36
    · refine ts_aload_n (i := 0) rfl rfl dX12_keepers_12 ?_
      refine td_getR (q := 21) tl_X12_69 rfl ga_m_1 rfl dX12_keepers_13 ?_
      refine ts_bipush rfl dX12_keepers_16 ?_
      refine ts_iload_n (i := 1) rfl rfl dX12_keepers_18 ?_
      refine ts_imul dX12_keepers_19 ?_
      refine ts_iload_n (i := 3) rfl rfl dX12_keepers_20 ?_
      refine ts_iadd dX12_keepers_21 ?_
      refine td_guard (fun h1 => ?_)
      refine td_ialdK ga_m_21 (gn_m_21 _) h1 dX12_keepers_22 ?_
      refine td_if_le (tgt := 29) rfl dX12_keepers_23 ?_ ?_
      · refine tq_iinc [tv_R 1, tv_I v1, tv_I v2, tv_I (tv_w (v3 + 1))] rfl rfl rfl dX12_keepers_29 ?_
        refine ts_goto (tgt := 4) rfl dX12_keepers_32 ?_
        exact ih v1 v2 (tv_w (v3 + 1)) D
      · refine tq_iinc [tv_R 1, tv_I v1, tv_I (tv_w (v2 + 1)), tv_I v3] rfl rfl rfl dX12_keepers_26 ?_
        refine tq_iinc [tv_R 1, tv_I v1, tv_I (tv_w (v2 + 1)), tv_I (tv_w (v3 + 1))] rfl rfl rfl dX12_keepers_29 ?_
        refine ts_goto (tgt := 4) rfl dX12_keepers_32 ?_
        exact ih v1 (tv_w (v2 + 1)) (tv_w (v3 + 1)) D
def F_X12_keepers (a1 : Int) (D : td_D) : Option (Int × td_D) :=
  F_X12_keepers_4 tf_N a1 0 0 D
set_option maxHeartbeats 4000000 in
set_option maxRecDepth 20000 in
theorem S_X12_keepers (l : Launch) {E : tv_E} (hE : tv_hE E) (d : Nat) (a1 : Int) (D : td_D) : td_msim l E (d + 0) mX12_keepers g_m [tv_R 1, tv_I a1] D (F_X12_keepers a1 D) := by
  refine td_meetL (ls := [tv_R 1, tv_I a1, tv_U, tv_U]) rfl (Nat.le_of_ble_eq_true rfl) rfl ?_
  unfold F_X12_keepers
  refine ts_iconst rfl dX12_keepers_0 ?_
  refine tq_istore_n [tv_R 1, tv_I a1, tv_I 0, tv_U] rfl (Nat.le_of_ble_eq_true rfl) rfl rfl dX12_keepers_1 ?_
  refine ts_iconst rfl dX12_keepers_2 ?_
  refine tq_istore_n [tv_R 1, tv_I a1, tv_I 0, tv_I 0] rfl (Nat.le_of_ble_eq_true rfl) rfl rfl dX12_keepers_3 ?_
  exact S_X12_keepers_4 hE d tf_N a1 0 0 D
def F_X12_growsTo_43 (v1 : Int) (v3 : Int) (v4 : Int) (s0 : Int) (D : td_D) : Option (Int × td_D) :=
  if D 1 30 = 0 then
    if 0 ≤ s0 then
      if s0 ≤ 99 then
        some (s0, D)
      else
        some (99, D)
    else
      some (0, D)
  else
    td_l (td_upd D 19 (Int.toNat 0) v4) fun D1 =>
    td_b (F_X12_allIn v1 D1) fun r2 D3 =>
    td_l (td_upd D3 19 (Int.toNat 1) r2) fun D4 =>
    td_l (td_upd D4 19 (Int.toNat 2) (D4 8 (Int.toNat 0))) fun D5 =>
    td_b (F_X12_keepers v1 D5) fun r6 D7 =>
    td_l (td_upd D7 19 (Int.toNat 3) r6) fun D8 =>
    td_l (td_upd D8 19 (Int.toNat 4) v1) fun D9 =>
    td_l (td_upd D9 19 (Int.toNat 5) v3) fun D10 =>
    td_b (F_X12_gives 0 D10) fun r11 D12 =>
    if 0 ≤ r11 then
      if r11 ≤ 99 then
        some (r11, D12)
      else
        some (99, D12)
    else
      some (0, D12)
set_option maxHeartbeats 4000000 in
set_option maxRecDepth 20000 in
theorem S_X12_growsTo_43 {l : Launch} {E : tv_E} (hE : tv_hE E) (d : Nat) (v1 : Int) (v3 : Int) (v4 : Int) (s0 : Int) (D : td_D) : td_sim l E (d + 3) mX12_growsTo g_m 43 [tv_R 1, tv_I v1, tv_U, tv_I v3, tv_I v4, tv_U] [tv_I s0] D (F_X12_growsTo_43 v1 v3 v4 s0 D) := by
  unfold F_X12_growsTo_43
  refine tq_istore [tv_R 1, tv_I v1, tv_U, tv_I v3, tv_I v4, tv_I s0] (Nat.le_of_ble_eq_true rfl) rfl rfl dX12_growsTo_43 ?_
  refine ts_aload_n (i := 0) rfl rfl dX12_growsTo_45 ?_
  refine td_getI tl_X12_273 rfl ga_m_1 rfl dX12_growsTo_46 ?_
  refine td_if_eq (tgt := 115) rfl dX12_growsTo_49 ?_ ?_
  · refine ts_iload rfl dX12_growsTo_115 ?_
    refine td_if_ge (tgt := 124) rfl dX12_growsTo_117 ?_ ?_
    · refine ts_iload rfl dX12_growsTo_124 ?_
      refine ts_bipush rfl dX12_growsTo_126 ?_
      refine td_icmp_le (tgt := 136) rfl dX12_growsTo_128 ?_ ?_
      · refine ts_iload rfl dX12_growsTo_136 ?_
        exact td_iret rfl dX12_growsTo_138
      · refine ts_bipush rfl dX12_growsTo_131 ?_
        refine ts_goto (tgt := 138) rfl dX12_growsTo_133 ?_
        exact td_iret rfl dX12_growsTo_138
    · refine ts_iconst rfl dX12_growsTo_120 ?_
      refine ts_goto (tgt := 138) rfl dX12_growsTo_121 ?_
      exact td_iret rfl dX12_growsTo_138
  · refine ts_aload_n (i := 0) rfl rfl dX12_growsTo_52 ?_
    refine td_getR (q := 19) tl_X12_63 rfl ga_m_1 rfl dX12_growsTo_53 ?_
    refine ts_iconst rfl dX12_growsTo_56 ?_
    refine ts_iload rfl dX12_growsTo_57 ?_
    refine td_iastK ga_m_19 (gn_m_19 _) ⟨by decide, by decide⟩ dX12_growsTo_59 ?_
    refine td_let (fun D1 => ?_)
    refine ts_aload_n (i := 0) rfl rfl dX12_growsTo_60 ?_
    refine td_getR (q := 19) tl_X12_63 rfl ga_m_1 rfl dX12_growsTo_61 ?_
    refine ts_iconst rfl dX12_growsTo_64 ?_
    refine ts_aload_n (i := 0) rfl rfl dX12_growsTo_65 ?_
    refine ts_iload_n (i := 1) rfl rfl dX12_growsTo_66 ?_
    refine tq_callV (y2 := mX12_allIn) [tv_I v1] [tv_I 1, tv_R 19] 1 (st' := fun r2 => [tv_I r2, tv_I 1, tv_R 19]) tw_X12_allIn tx_X12_allIn tw_c12 ga_m_1 tl_X12_277 rfl rfl rfl rfl (fun _ => rfl) dX12_growsTo_67 (S_X12_allIn l hE _ v1 D1) (fun r2 D3 => ?_)
    refine td_iastK ga_m_19 (gn_m_19 _) ⟨by decide, by decide⟩ dX12_growsTo_70 ?_
    refine td_let (fun D4 => ?_)
    refine ts_aload_n (i := 0) rfl rfl dX12_growsTo_71 ?_
    refine td_getR (q := 19) tl_X12_63 rfl ga_m_1 rfl dX12_growsTo_72 ?_
    refine ts_iconst rfl dX12_growsTo_75 ?_
    refine ts_aload_n (i := 0) rfl rfl dX12_growsTo_76 ?_
    refine td_getR (q := 8) tl_X12_28 rfl ga_m_1 rfl dX12_growsTo_77 ?_
    refine ts_iconst rfl dX12_growsTo_80 ?_
    refine td_ialdK ga_m_8 (gn_m_8 _) ⟨by decide, by decide⟩ dX12_growsTo_81 ?_
    refine td_iastK ga_m_19 (gn_m_19 _) ⟨by decide, by decide⟩ dX12_growsTo_82 ?_
    refine td_let (fun D5 => ?_)
    refine ts_aload_n (i := 0) rfl rfl dX12_growsTo_83 ?_
    refine td_getR (q := 19) tl_X12_63 rfl ga_m_1 rfl dX12_growsTo_84 ?_
    refine ts_iconst rfl dX12_growsTo_87 ?_
    refine ts_aload_n (i := 0) rfl rfl dX12_growsTo_88 ?_
    refine ts_iload_n (i := 1) rfl rfl dX12_growsTo_89 ?_
    refine tq_callV (y2 := mX12_keepers) [tv_I v1] [tv_I 3, tv_R 19] 1 (st' := fun r6 => [tv_I r6, tv_I 3, tv_R 19]) tw_X12_keepers tx_X12_keepers tw_c12 ga_m_1 tl_X12_280 rfl rfl rfl rfl (fun _ => rfl) dX12_growsTo_90 (S_X12_keepers l hE _ v1 D5) (fun r6 D7 => ?_)
    refine td_iastK ga_m_19 (gn_m_19 _) ⟨by decide, by decide⟩ dX12_growsTo_93 ?_
    refine td_let (fun D8 => ?_)
    refine ts_aload_n (i := 0) rfl rfl dX12_growsTo_94 ?_
    refine td_getR (q := 19) tl_X12_63 rfl ga_m_1 rfl dX12_growsTo_95 ?_
    refine ts_iconst rfl dX12_growsTo_98 ?_
    refine ts_iload_n (i := 1) rfl rfl dX12_growsTo_99 ?_
    refine td_iastK ga_m_19 (gn_m_19 _) ⟨by decide, by decide⟩ dX12_growsTo_100 ?_
    refine td_let (fun D9 => ?_)
    refine ts_aload_n (i := 0) rfl rfl dX12_growsTo_101 ?_
    refine td_getR (q := 19) tl_X12_63 rfl ga_m_1 rfl dX12_growsTo_102 ?_
    refine ts_iconst rfl dX12_growsTo_105 ?_
    refine ts_iload_n (i := 3) rfl rfl dX12_growsTo_106 ?_
    refine td_iastK ga_m_19 (gn_m_19 _) ⟨by decide, by decide⟩ dX12_growsTo_107 ?_
    refine td_let (fun D10 => ?_)
    refine ts_aload_n (i := 0) rfl rfl dX12_growsTo_108 ?_
    refine ts_iconst rfl dX12_growsTo_109 ?_
    refine tq_callV (y2 := mX12_gives) [tv_I 0] [] 1 (st' := fun r11 => [tv_I r11]) tw_X12_gives tx_X12_gives tw_c12 ga_m_1 tl_X12_283 rfl rfl rfl rfl (fun _ => rfl) dX12_growsTo_110 (S_X12_gives l hE _ 0 D10) (fun r11 D12 => ?_)
    refine tq_istore [tv_R 1, tv_I v1, tv_U, tv_I v3, tv_I v4, tv_I r11] (Nat.le_of_ble_eq_true rfl) rfl rfl dX12_growsTo_113 ?_
    refine ts_iload rfl dX12_growsTo_115 ?_
    refine td_if_ge (tgt := 124) rfl dX12_growsTo_117 ?_ ?_
    · refine ts_iload rfl dX12_growsTo_124 ?_
      refine ts_bipush rfl dX12_growsTo_126 ?_
      refine td_icmp_le (tgt := 136) rfl dX12_growsTo_128 ?_ ?_
      · refine ts_iload rfl dX12_growsTo_136 ?_
        exact td_iret rfl dX12_growsTo_138
      · refine ts_bipush rfl dX12_growsTo_131 ?_
        refine ts_goto (tgt := 138) rfl dX12_growsTo_133 ?_
        exact td_iret rfl dX12_growsTo_138
    · refine ts_iconst rfl dX12_growsTo_120 ?_
      refine ts_goto (tgt := 138) rfl dX12_growsTo_121 ?_
      exact td_iret rfl dX12_growsTo_138
def F_X12_growsTo (a1 : Int) (a2 : Int) (a3 : Int) (D : td_D) : Option (Int × td_D) :=
  if 0 ≤ tv_w ((tv_w (6 * a1)) + a2) ∧ tv_w ((tv_w (6 * a1)) + a2) < ((30 : Nat) : Int) then
    if D 21 (Int.toNat (tv_w ((tv_w (6 * a1)) + a2))) = 0 then
      some (0, D)
    else
      if D 8 (Int.toNat 0) = 3 then
        F_X12_growsTo_43 a1 a3 (D 21 (Int.toNat (tv_w ((tv_w (6 * a1)) + a2)))) (D 21 (Int.toNat (tv_w ((tv_w (6 * a1)) + a2)))) D
      else
        F_X12_growsTo_43 a1 a3 (D 21 (Int.toNat (tv_w ((tv_w (6 * a1)) + a2)))) (tv_w ((D 21 (Int.toNat (tv_w ((tv_w (6 * a1)) + a2)))) + (tv_div (D 21 (Int.toNat (tv_w ((tv_w (6 * a1)) + a2)))) 10))) D
  else none
set_option maxHeartbeats 4000000 in
set_option maxRecDepth 20000 in
theorem S_X12_growsTo (l : Launch) {E : tv_E} (hE : tv_hE E) (d : Nat) (a1 : Int) (a2 : Int) (a3 : Int) (D : td_D) : td_msim l E (d + 3) mX12_growsTo g_m [tv_R 1, tv_I a1, tv_I a2, tv_I a3] D (F_X12_growsTo a1 a2 a3 D) := by
  refine td_meetL (ls := [tv_R 1, tv_I a1, tv_I a2, tv_I a3, tv_U, tv_U]) rfl (Nat.le_of_ble_eq_true rfl) rfl ?_
  unfold F_X12_growsTo
  refine ts_aload_n (i := 0) rfl rfl dX12_growsTo_0 ?_
  refine td_getR (q := 21) tl_X12_69 rfl ga_m_1 rfl dX12_growsTo_1 ?_
  refine ts_bipush rfl dX12_growsTo_4 ?_
  refine ts_iload_n (i := 1) rfl rfl dX12_growsTo_6 ?_
  refine ts_imul dX12_growsTo_7 ?_
  refine ts_iload_n (i := 2) rfl rfl dX12_growsTo_8 ?_
  refine ts_iadd dX12_growsTo_9 ?_
  refine td_guard (fun h13 => ?_)
  refine td_ialdK ga_m_21 (gn_m_21 _) h13 dX12_growsTo_10 ?_
  refine tq_istore [tv_R 1, tv_I a1, tv_I a2, tv_I a3, tv_I (D 21 (Int.toNat (tv_w ((tv_w (6 * a1)) + a2)))), tv_U] (Nat.le_of_ble_eq_true rfl) rfl rfl dX12_growsTo_11 ?_
  refine ts_iload rfl dX12_growsTo_13 ?_
  refine td_if_ne (tgt := 20) rfl dX12_growsTo_15 ?_ ?_
  · refine ts_iconst rfl dX12_growsTo_18 ?_
    exact td_iret rfl dX12_growsTo_19
  · refine ts_aload_n (i := 0) rfl rfl dX12_growsTo_20 ?_
    refine td_getR (q := 8) tl_X12_28 rfl ga_m_1 rfl dX12_growsTo_21 ?_
    refine ts_iconst rfl dX12_growsTo_24 ?_
    refine td_ialdK ga_m_8 (gn_m_8 _) ⟨by decide, by decide⟩ dX12_growsTo_25 ?_
    refine ts_iconst rfl dX12_growsTo_26 ?_
    refine td_icmp_ne (tgt := 35) rfl dX12_growsTo_27 ?_ ?_
    · refine ts_iload rfl dX12_growsTo_30 ?_
      refine ts_goto (tgt := 43) rfl dX12_growsTo_32 ?_
      refine tv_weak (ls' := [tv_R 1, tv_I a1, tv_U, tv_I a3, tv_I (D 21 (Int.toNat (tv_w ((tv_w (6 * a1)) + a2)))), tv_U]) ⟨Or.inr rfl, Or.inr rfl, Or.inl rfl, Or.inr rfl, Or.inr rfl, Or.inl rfl, trivial⟩ ?_
      exact S_X12_growsTo_43 hE d a1 a3 (D 21 (Int.toNat (tv_w ((tv_w (6 * a1)) + a2)))) (D 21 (Int.toNat (tv_w ((tv_w (6 * a1)) + a2)))) D
    · refine ts_iload rfl dX12_growsTo_35 ?_
      refine ts_iload rfl dX12_growsTo_37 ?_
      refine ts_bipush rfl dX12_growsTo_39 ?_
      refine td_idivK (by decide) dX12_growsTo_41 ?_
      refine ts_iadd dX12_growsTo_42 ?_
      refine tv_weak (ls' := [tv_R 1, tv_I a1, tv_U, tv_I a3, tv_I (D 21 (Int.toNat (tv_w ((tv_w (6 * a1)) + a2)))), tv_U]) ⟨Or.inr rfl, Or.inr rfl, Or.inl rfl, Or.inr rfl, Or.inr rfl, Or.inl rfl, trivial⟩ ?_
      exact S_X12_growsTo_43 hE d a1 a3 (D 21 (Int.toNat (tv_w ((tv_w (6 * a1)) + a2)))) (tv_w ((D 21 (Int.toNat (tv_w ((tv_w (6 * a1)) + a2)))) + (tv_div (D 21 (Int.toNat (tv_w ((tv_w (6 * a1)) + a2)))) 10))) D
def F_X12_goDay_67 (k34 : Int → Int → Int → td_D → Option (Int × td_D)) (v1 : Int) (v3 : Int) (v4 : Int) (D : td_D) : Option (Int × td_D) :=
  if 0 ≤ v4 ∧ v4 < ((6 : Nat) : Int) then
    if 0 ≤ tv_w ((tv_w (6 * v1)) + v4) ∧ tv_w ((tv_w (6 * v1)) + v4) < ((30 : Nat) : Int) then
      td_l (td_upd D 21 (Int.toNat (tv_w ((tv_w (6 * v1)) + v4))) (D 22 (Int.toNat v4))) fun D3 =>
      k34 v1 v3 (tv_w (v4 + 1)) D3
    else none
  else none
set_option maxHeartbeats 4000000 in
set_option maxRecDepth 20000 in
theorem S_X12_goDay_67 {l : Launch} {E : tv_E} (hE : tv_hE E) (d : Nat) (k34 : Int → Int → Int → td_D → Option (Int × td_D)) (hk34 : ∀ (v1 : Int) (v3 : Int) (v4 : Int) (D : td_D), td_sim l E (d + 4) mX12_goDay g_m 34 [tv_R 1, tv_I v1, tv_U, tv_I v3, tv_I v4] [] D (k34 v1 v3 v4 D)) (v1 : Int) (v3 : Int) (v4 : Int) (D : td_D) : td_sim l E (d + 4) mX12_goDay g_m 67 [tv_R 1, tv_I v1, tv_U, tv_I v3, tv_I v4] [] D (F_X12_goDay_67 k34 v1 v3 v4 D) := by
  unfold F_X12_goDay_67
  refine ts_aload_n (i := 0) rfl rfl dX12_goDay_67 ?_
  refine td_getR (q := 21) tl_X12_69 rfl ga_m_1 rfl dX12_goDay_68 ?_
  refine ts_bipush rfl dX12_goDay_71 ?_
  refine ts_iload_n (i := 1) rfl rfl dX12_goDay_73 ?_
  refine ts_imul dX12_goDay_74 ?_
  refine ts_iload rfl dX12_goDay_75 ?_
  refine ts_iadd dX12_goDay_77 ?_
  refine ts_aload_n (i := 0) rfl rfl dX12_goDay_78 ?_
  refine td_getR (q := 22) tl_X12_72 rfl ga_m_1 rfl dX12_goDay_79 ?_
  refine ts_iload rfl dX12_goDay_82 ?_
  refine td_guard (fun h1 => ?_)
  refine td_ialdK ga_m_22 (gn_m_22 _) h1 dX12_goDay_84 ?_
  refine td_guard (fun h2 => ?_)
  refine td_iastK ga_m_21 (gn_m_21 _) h2 dX12_goDay_85 ?_
  refine td_let (fun D3 => ?_)
  refine tq_iinc [tv_R 1, tv_I v1, tv_U, tv_I v3, tv_I (tv_w (v4 + 1))] rfl rfl rfl dX12_goDay_86 ?_
  refine ts_goto (tgt := 34) rfl dX12_goDay_89 ?_
  exact hk34 v1 v3 (tv_w (v4 + 1)) D3
def F_X12_goDay_34 : Nat → Int → Int → Int → td_D → Option (Int × td_D)
  | 0, _, _, _, _ => none
  | n + 1, v1, v3, v4, D =>
    if D 1 1 ≤ v4 then
      if v3 = 0 ∨ v3 = 1 then some (v3, D) else none
    else
      if 0 ≤ tv_w ((tv_w (6 * v1)) + v4) ∧ tv_w ((tv_w (6 * v1)) + v4) < ((30 : Nat) : Int) then
        if 0 ≤ v4 ∧ v4 < ((6 : Nat) : Int) then
          if D 21 (Int.toNat (tv_w ((tv_w (6 * v1)) + v4))) = D 22 (Int.toNat v4) then
            F_X12_goDay_67 (fun v1 v3 v4 D => F_X12_goDay_34 n v1 v3 v4 D) v1 v3 v4 D
          else
            F_X12_goDay_67 (fun v1 v3 v4 D => F_X12_goDay_34 n v1 v3 v4 D) v1 1 v4 D
        else none
      else none
set_option maxHeartbeats 4000000 in
set_option maxRecDepth 20000 in
theorem S_X12_goDay_34 {l : Launch} {E : tv_E} (hE : tv_hE E) (d : Nat) : ∀ (n : Nat) (v1 : Int) (v3 : Int) (v4 : Int) (D : td_D), td_sim l E (d + 4) mX12_goDay g_m 34 [tv_R 1, tv_I v1, tv_U, tv_I v3, tv_I v4] [] D (F_X12_goDay_34 n v1 v3 v4 D) := by
  intro n
  induction n with
  | zero => intros; exact tv_none
  | succ n ih =>
    intro v1 v3 v4 D
    show td_sim _ _ _ _ _ _ _ _ _ (F_X12_goDay_34 (n + 1) v1 v3 v4 D)
    unfold F_X12_goDay_34
    refine ts_iload rfl dX12_goDay_34 ?_
    refine ts_aload_n (i := 0) rfl rfl dX12_goDay_36 ?_
    refine td_getI tl_X12_139 rfl ga_m_1 rfl dX12_goDay_37 ?_
    refine td_icmp_ge (tgt := 92) rfl dX12_goDay_40 ?_ ?_
    · refine ts_iload_n (i := 3) rfl rfl dX12_goDay_92 ?_
      exact td_zret rfl dX12_goDay_93
    · refine ts_aload_n (i := 0) rfl rfl dX12_goDay_43 ?_
      refine td_getR (q := 21) tl_X12_69 rfl ga_m_1 rfl dX12_goDay_44 ?_
      refine ts_bipush rfl dX12_goDay_47 ?_
      refine ts_iload_n (i := 1) rfl rfl dX12_goDay_49 ?_
      refine ts_imul dX12_goDay_50 ?_
      refine ts_iload rfl dX12_goDay_51 ?_
      refine ts_iadd dX12_goDay_53 ?_
      refine td_guard (fun h4 => ?_)
      refine td_ialdK ga_m_21 (gn_m_21 _) h4 dX12_goDay_54 ?_
      refine ts_aload_n (i := 0) rfl rfl dX12_goDay_55 ?_
      refine td_getR (q := 22) tl_X12_72 rfl ga_m_1 rfl dX12_goDay_56 ?_
      refine ts_iload rfl dX12_goDay_59 ?_
      refine td_guard (fun h5 => ?_)
      refine td_ialdK ga_m_22 (gn_m_22 _) h5 dX12_goDay_61 ?_
      refine td_icmp_eq (tgt := 67) rfl dX12_goDay_62 ?_ ?_
      · exact S_X12_goDay_67 hE d (fun v1 v3 v4 D => F_X12_goDay_34 n v1 v3 v4 D) (fun v1 v3 v4 D => ih v1 v3 v4 D) v1 v3 v4 D
      · refine ts_iconst rfl dX12_goDay_65 ?_
        refine tq_istore_n [tv_R 1, tv_I v1, tv_U, tv_I 1, tv_I v4] rfl (Nat.le_of_ble_eq_true rfl) rfl rfl dX12_goDay_66 ?_
        exact S_X12_goDay_67 hE d (fun v1 v3 v4 D => F_X12_goDay_34 n v1 v3 v4 D) (fun v1 v3 v4 D => ih v1 v3 v4 D) v1 1 v4 D
def F_X12_goDay_2 : Nat → Int → Int → Int → td_D → Option (Int × td_D)
  | 0, _, _, _, _ => none
  | n + 1, v1, v2, v3, D =>
    if D 1 1 ≤ v3 then
      F_X12_goDay_34 tf_N v1 0 0 D
    else
      td_b (F_X12_growsTo v1 v3 v2 D) fun r6 D7 =>
      if 0 ≤ v3 ∧ v3 < ((6 : Nat) : Int) then
        td_l (td_upd D7 22 (Int.toNat v3) r6) fun D9 =>
        F_X12_goDay_2 n v1 v2 (tv_w (v3 + 1)) D9
      else none
set_option maxHeartbeats 4000000 in
set_option maxRecDepth 20000 in
theorem S_X12_goDay_2 {l : Launch} {E : tv_E} (hE : tv_hE E) (d : Nat) : ∀ (n : Nat) (v1 : Int) (v2 : Int) (v3 : Int) (D : td_D), td_sim l E (d + 4) mX12_goDay g_m 2 [tv_R 1, tv_I v1, tv_I v2, tv_I v3, tv_U] [] D (F_X12_goDay_2 n v1 v2 v3 D) := by
  intro n
  induction n with
  | zero => intros; exact tv_none
  | succ n ih =>
    intro v1 v2 v3 D
    show td_sim _ _ _ _ _ _ _ _ _ (F_X12_goDay_2 (n + 1) v1 v2 v3 D)
    unfold F_X12_goDay_2
    refine ts_iload_n (i := 3) rfl rfl dX12_goDay_2 ?_
    refine ts_aload_n (i := 0) rfl rfl dX12_goDay_3 ?_
    refine td_getI tl_X12_139 rfl ga_m_1 rfl dX12_goDay_4 ?_
    refine td_icmp_ge (tgt := 29) rfl dX12_goDay_7 ?_ ?_
    · refine ts_iconst rfl dX12_goDay_29 ?_
      refine tq_istore_n [tv_R 1, tv_I v1, tv_I v2, tv_I 0, tv_U] rfl (Nat.le_of_ble_eq_true rfl) rfl rfl dX12_goDay_30 ?_
      refine ts_iconst rfl dX12_goDay_31 ?_
      refine tq_istore [tv_R 1, tv_I v1, tv_I v2, tv_I 0, tv_I 0] (Nat.le_of_ble_eq_true rfl) rfl rfl dX12_goDay_32 ?_
      refine tv_weak (ls' := [tv_R 1, tv_I v1, tv_U, tv_I 0, tv_I 0]) ⟨Or.inr rfl, Or.inr rfl, Or.inl rfl, Or.inr rfl, Or.inr rfl, trivial⟩ ?_
      exact S_X12_goDay_34 hE d tf_N v1 0 0 D
    · refine ts_aload_n (i := 0) rfl rfl dX12_goDay_10 ?_
      refine td_getR (q := 22) tl_X12_72 rfl ga_m_1 rfl dX12_goDay_11 ?_
      refine ts_iload_n (i := 3) rfl rfl dX12_goDay_14 ?_
      refine ts_aload_n (i := 0) rfl rfl dX12_goDay_15 ?_
      refine ts_iload_n (i := 1) rfl rfl dX12_goDay_16 ?_
      refine ts_iload_n (i := 3) rfl rfl dX12_goDay_17 ?_
      refine ts_iload_n (i := 2) rfl rfl dX12_goDay_18 ?_
      refine tq_callV (y2 := mX12_growsTo) [tv_I v1, tv_I v3, tv_I v2] [tv_I v3, tv_R 22] 1 (st' := fun r6 => [tv_I r6, tv_I v3, tv_R 22]) tw_X12_growsTo tx_X12_growsTo tw_c12 ga_m_1 tl_X12_286 rfl rfl rfl rfl (fun _ => rfl) dX12_goDay_19 (S_X12_growsTo l hE _ v1 v3 v2 D) (fun r6 D7 => ?_)
      refine td_guard (fun h8 => ?_)
      refine td_iastK ga_m_22 (gn_m_22 _) h8 dX12_goDay_22 ?_
      refine td_let (fun D9 => ?_)
      refine tq_iinc [tv_R 1, tv_I v1, tv_I v2, tv_I (tv_w (v3 + 1)), tv_U] rfl rfl rfl dX12_goDay_23 ?_
      refine ts_goto (tgt := 2) rfl dX12_goDay_26 ?_
      exact ih v1 v2 (tv_w (v3 + 1)) D9
def F_X12_goDay (a1 : Int) (a2 : Int) (D : td_D) : Option (Int × td_D) :=
  F_X12_goDay_2 tf_N a1 a2 0 D
set_option maxHeartbeats 4000000 in
set_option maxRecDepth 20000 in
theorem S_X12_goDay (l : Launch) {E : tv_E} (hE : tv_hE E) (d : Nat) (a1 : Int) (a2 : Int) (D : td_D) : td_msim l E (d + 4) mX12_goDay g_m [tv_R 1, tv_I a1, tv_I a2] D (F_X12_goDay a1 a2 D) := by
  refine td_meetL (ls := [tv_R 1, tv_I a1, tv_I a2, tv_U, tv_U]) rfl (Nat.le_of_ble_eq_true rfl) rfl ?_
  unfold F_X12_goDay
  refine ts_iconst rfl dX12_goDay_0 ?_
  refine tq_istore_n [tv_R 1, tv_I a1, tv_I a2, tv_I 0, tv_U] rfl (Nat.le_of_ble_eq_true rfl) rfl rfl dX12_goDay_1 ?_
  exact S_X12_goDay_2 hE d tf_N a1 a2 0 D
def F_X12_stingsTo (a1 : Int) (D : td_D) : Option (Int × td_D) :=
  if a1 = 0 then
    some ((-1), D)
  else
    if D 8 (Int.toNat 1) = 0 then none else
      some (tv_div a1 (D 8 (Int.toNat 1)), D)
set_option maxHeartbeats 4000000 in
set_option maxRecDepth 20000 in
theorem S_X12_stingsTo (l : Launch) {E : tv_E} (hE : tv_hE E) (d : Nat) (a1 : Int) (D : td_D) : td_msim l E (d + 0) mX12_stingsTo g_m [tv_R 1, tv_I a1] D (F_X12_stingsTo a1 D) := by
  refine td_meetL (ls := [tv_R 1, tv_I a1]) rfl (Nat.le_of_ble_eq_true rfl) rfl ?_
  unfold F_X12_stingsTo
  refine ts_iload_n (i := 1) rfl rfl dX12_stingsTo_0 ?_
  refine td_if_ne (tgt := 8) rfl dX12_stingsTo_1 ?_ ?_
  · refine ts_iconst rfl dX12_stingsTo_4 ?_
    refine ts_goto (tgt := 16) rfl dX12_stingsTo_5 ?_
    exact td_iret rfl dX12_stingsTo_16
  · refine ts_iload_n (i := 1) rfl rfl dX12_stingsTo_8 ?_
    refine ts_aload_n (i := 0) rfl rfl dX12_stingsTo_9 ?_
    refine td_getR (q := 8) tl_X12_28 rfl ga_m_1 rfl dX12_stingsTo_10 ?_
    refine ts_iconst rfl dX12_stingsTo_13 ?_
    refine td_ialdK ga_m_8 (gn_m_8 _) ⟨by decide, by decide⟩ dX12_stingsTo_14 ?_
    refine td_ite (fun _ => tv_none) (fun h1 => ?_)
    refine td_idivK h1 dX12_stingsTo_15 ?_
    exact td_iret rfl dX12_stingsTo_16
def F_X12_later_59 : Nat → Int → Int → Int → Int → td_D → Option (Int × td_D)
  | 0, _, _, _, _, _ => none
  | n + 1, v1, v2, v3, v4, D =>
    if v2 ≤ v4 then
      if tv_rem v1 10 = 9 then
        td_b (F_X12_allIn v3 D) fun r1 D2 =>
        some (r1, D2)
      else
        td_b (F_X12_allIn v3 D) fun r3 D4 =>
        td_b (F_X12_stingsTo r3 D4) fun r5 D6 =>
        if 8 ≤ tv_rem v1 10 then
          if 0 ≤ r5 then
            some (r5, D6)
          else
            some ((-2), D6)
        else
          if 0 ≤ tv_w ((tv_w (6 * v3)) + (tv_rem v1 10)) ∧ tv_w ((tv_w (6 * v3)) + (tv_rem v1 10)) < ((30 : Nat) : Int) then
            some (D6 21 (Int.toNat (tv_w ((tv_w (6 * v3)) + (tv_rem v1 10)))), D6)
          else none
    else
      td_b (F_X12_goDay v3 v4 D) fun r8 D9 =>
      F_X12_later_59 n v1 v2 v3 (tv_w (v4 + 1)) D9
set_option maxHeartbeats 4000000 in
set_option maxRecDepth 20000 in
theorem S_X12_later_59 {l : Launch} {E : tv_E} (hE : tv_hE E) (d : Nat) : ∀ (n : Nat) (v1 : Int) (v2 : Int) (v3 : Int) (v4 : Int) (D : td_D), td_sim l E (d + 5) mX12_later g_m 59 [tv_R 1, tv_I v1, tv_I v2, tv_I v3, tv_I v4] [] D (F_X12_later_59 n v1 v2 v3 v4 D) := by
  intro n
  induction n with
  | zero => intros; exact tv_none
  | succ n ih =>
    intro v1 v2 v3 v4 D
    show td_sim _ _ _ _ _ _ _ _ _ (F_X12_later_59 (n + 1) v1 v2 v3 v4 D)
    unfold F_X12_later_59
    refine ts_iload rfl dX12_later_59 ?_
    refine ts_iload_n (i := 2) rfl rfl dX12_later_61 ?_
    refine td_icmp_ge (tgt := 79) rfl dX12_later_62 ?_ ?_
    · refine ts_iload_n (i := 1) rfl rfl dX12_later_79 ?_
      refine ts_bipush rfl dX12_later_80 ?_
      refine td_iremK (by decide) dX12_later_82 ?_
      refine ts_bipush rfl dX12_later_83 ?_
      refine td_icmp_ne (tgt := 94) rfl dX12_later_85 ?_ ?_
      · refine ts_aload_n (i := 0) rfl rfl dX12_later_88 ?_
        refine ts_iload_n (i := 3) rfl rfl dX12_later_89 ?_
        refine tq_callV (y2 := mX12_allIn) [tv_I v3] [] 1 (st' := fun r1 => [tv_I r1]) tw_X12_allIn tx_X12_allIn tw_c12 ga_m_1 tl_X12_277 rfl rfl rfl rfl (fun _ => rfl) dX12_later_90 (S_X12_allIn l hE _ v3 D) (fun r1 D2 => ?_)
        exact td_iret rfl dX12_later_93
      · refine ts_aload_n (i := 0) rfl rfl dX12_later_94 ?_
        refine ts_aload_n (i := 0) rfl rfl dX12_later_95 ?_
        refine ts_iload_n (i := 3) rfl rfl dX12_later_96 ?_
        refine tq_callV (y2 := mX12_allIn) [tv_I v3] [tv_R 1] 1 (st' := fun r3 => [tv_I r3, tv_R 1]) tw_X12_allIn tx_X12_allIn tw_c12 ga_m_1 tl_X12_277 rfl rfl rfl rfl (fun _ => rfl) dX12_later_97 (S_X12_allIn l hE _ v3 D) (fun r3 D4 => ?_)
        refine tq_callV (y2 := mX12_stingsTo) [tv_I r3] [] 1 (st' := fun r5 => [tv_I r5]) tw_X12_stingsTo tx_X12_stingsTo tw_c12 ga_m_1 tl_X12_295 rfl rfl rfl rfl (fun _ => rfl) dX12_later_100 (S_X12_stingsTo l hE _ r3 D4) (fun r5 D6 => ?_)
        refine tq_istore [tv_R 1, tv_I v1, tv_I v2, tv_I v3, tv_I r5] (Nat.le_of_ble_eq_true rfl) rfl rfl dX12_later_103 ?_
        refine ts_iload_n (i := 1) rfl rfl dX12_later_105 ?_
        refine ts_bipush rfl dX12_later_106 ?_
        refine td_iremK (by decide) dX12_later_108 ?_
        refine ts_bipush rfl dX12_later_109 ?_
        refine td_icmp_ge (tgt := 131) rfl dX12_later_111 ?_ ?_
        · refine ts_iload rfl dX12_later_131 ?_
          refine td_if_ge (tgt := 141) rfl dX12_later_133 ?_ ?_
          · refine ts_iload rfl dX12_later_141 ?_
            exact td_iret rfl dX12_later_143
          · refine ts_bipush rfl dX12_later_136 ?_
            refine ts_goto (tgt := 143) rfl dX12_later_138 ?_
            exact td_iret rfl dX12_later_143
        · refine ts_aload_n (i := 0) rfl rfl dX12_later_114 ?_
          refine td_getR (q := 21) tl_X12_69 rfl ga_m_1 rfl dX12_later_115 ?_
          refine ts_bipush rfl dX12_later_118 ?_
          refine ts_iload_n (i := 3) rfl rfl dX12_later_120 ?_
          refine ts_imul dX12_later_121 ?_
          refine ts_iload_n (i := 1) rfl rfl dX12_later_122 ?_
          refine ts_bipush rfl dX12_later_123 ?_
          refine td_iremK (by decide) dX12_later_125 ?_
          refine ts_iadd dX12_later_126 ?_
          refine td_guard (fun h7 => ?_)
          refine td_ialdK ga_m_21 (gn_m_21 _) h7 dX12_later_127 ?_
          refine ts_goto (tgt := 143) rfl dX12_later_128 ?_
          exact td_iret rfl dX12_later_143
    · refine ts_aload_n (i := 0) rfl rfl dX12_later_65 ?_
      refine ts_iload_n (i := 3) rfl rfl dX12_later_66 ?_
      refine ts_iload rfl dX12_later_67 ?_
      refine tq_callV (y2 := mX12_goDay) [tv_I v3, tv_I v4] [] 1 (st' := fun r8 => [tv_I r8]) tw_X12_goDay tx_X12_goDay tw_c12 ga_m_1 tl_X12_292 rfl rfl rfl rfl (fun _ => rfl) dX12_later_69 (S_X12_goDay l hE _ v3 v4 D) (fun r8 D9 => ?_)
      refine ts_popI dX12_later_72 ?_
      refine tq_iinc [tv_R 1, tv_I v1, tv_I v2, tv_I v3, tv_I (tv_w (v4 + 1))] rfl rfl rfl dX12_later_73 ?_
      refine ts_goto (tgt := 59) rfl dX12_later_76 ?_
      exact ih v1 v2 v3 (tv_w (v4 + 1)) D9
def F_X12_later_35 (v1 : Int) (v2 : Int) (D : td_D) : Option (Int × td_D) :=
  td_b (F_X12_in v2 0 60 D) fun r10 D11 =>
  if r10 = 0 then
    some ((-1), D11)
  else
    td_b (F_X12_layNow D11) fun _ D13 =>
    F_X12_later_59 tf_N v1 v2 (tv_div v1 10) 0 D13
set_option maxHeartbeats 4000000 in
set_option maxRecDepth 20000 in
theorem S_X12_later_35 {l : Launch} {E : tv_E} (hE : tv_hE E) (d : Nat) (v1 : Int) (v2 : Int) (D : td_D) : td_sim l E (d + 5) mX12_later g_m 35 [tv_R 1, tv_I v1, tv_I v2, tv_U, tv_U] [] D (F_X12_later_35 v1 v2 D) := by
  unfold F_X12_later_35
  refine ts_iload_n (i := 2) rfl rfl dX12_later_35 ?_
  refine ts_iconst rfl dX12_later_36 ?_
  refine ts_bipush rfl dX12_later_37 ?_
  refine tq_callS (y2 := mX12_in) [tv_I v2, tv_I 0, tv_I 60] [] (st' := fun r10 => [tv_I r10]) tw_X12_in tx_X12_in tl_X12_142 rfl rfl rfl rfl (fun _ => rfl) dX12_later_39 (S_X12_in l hE _ v2 0 60 D) (fun r10 D11 => ?_)
  refine td_if_ne (tgt := 47) rfl dX12_later_42 ?_ ?_
  · refine ts_iconst rfl dX12_later_45 ?_
    exact td_iret rfl dX12_later_46
  · refine ts_iload_n (i := 1) rfl rfl dX12_later_47 ?_
    refine ts_bipush rfl dX12_later_48 ?_
    refine td_idivK (by decide) dX12_later_50 ?_
    refine tq_istore_n [tv_R 1, tv_I v1, tv_I v2, tv_I (tv_div v1 10), tv_U] rfl (Nat.le_of_ble_eq_true rfl) rfl rfl dX12_later_51 ?_
    refine ts_aload_n (i := 0) rfl rfl dX12_later_52 ?_
    refine tq_callV (y2 := mX12_layNow) [] [] 1 (st' := fun _ => []) tw_X12_layNow tx_X12_layNow tw_c12 ga_m_1 tl_X12_289 rfl rfl rfl rfl (fun _ => rfl) dX12_later_53 (S_X12_layNow l hE _ D11) (fun r12 D13 => ?_)
    refine ts_iconst rfl dX12_later_56 ?_
    refine tq_istore [tv_R 1, tv_I v1, tv_I v2, tv_I (tv_div v1 10), tv_I 0] (Nat.le_of_ble_eq_true rfl) rfl rfl dX12_later_57 ?_
    exact S_X12_later_59 hE d tf_N v1 v2 (tv_div v1 10) 0 D13
def F_X12_later (a1 : Int) (a2 : Int) (D : td_D) : Option (Int × td_D) :=
  if a1 < 0 then
    some ((-1), D)
  else
    td_b (F_X12_isHive (tv_div a1 10) D) fun r14 D15 =>
    if r14 = 0 then
      some ((-1), D15)
    else
      td_b (F_X12_isPerson (tv_rem a1 10) D15) fun r16 D17 =>
      if r16 = 0 then
        if tv_rem a1 10 < 8 then
          some ((-1), D17)
        else
          F_X12_later_35 a1 a2 D17
      else
        F_X12_later_35 a1 a2 D17
set_option maxHeartbeats 4000000 in
set_option maxRecDepth 20000 in
theorem S_X12_later (l : Launch) {E : tv_E} (hE : tv_hE E) (d : Nat) (a1 : Int) (a2 : Int) (D : td_D) : td_msim l E (d + 5) mX12_later g_m [tv_R 1, tv_I a1, tv_I a2] D (F_X12_later a1 a2 D) := by
  refine td_meetL (ls := [tv_R 1, tv_I a1, tv_I a2, tv_U, tv_U]) rfl (Nat.le_of_ble_eq_true rfl) rfl ?_
  unfold F_X12_later
  refine ts_iload_n (i := 1) rfl rfl dX12_later_0 ?_
  refine td_if_lt (tgt := 45) rfl dX12_later_1 ?_ ?_
  · refine ts_iconst rfl dX12_later_45 ?_
    exact td_iret rfl dX12_later_46
  · refine ts_aload_n (i := 0) rfl rfl dX12_later_4 ?_
    refine ts_iload_n (i := 1) rfl rfl dX12_later_5 ?_
    refine ts_bipush rfl dX12_later_6 ?_
    refine td_idivK (by decide) dX12_later_8 ?_
    refine tq_callV (y2 := mX12_isHive) [tv_I (tv_div a1 10)] [] 1 (st' := fun r14 => [tv_I r14]) tw_X12_isHive tx_X12_isHive tw_c12 ga_m_1 tl_X12_185 rfl rfl rfl rfl (fun _ => rfl) dX12_later_9 (S_X12_isHive l hE _ (tv_div a1 10) D) (fun r14 D15 => ?_)
    refine td_if_eq (tgt := 45) rfl dX12_later_12 ?_ ?_
    · refine ts_iconst rfl dX12_later_45 ?_
      exact td_iret rfl dX12_later_46
    · refine ts_aload_n (i := 0) rfl rfl dX12_later_15 ?_
      refine ts_iload_n (i := 1) rfl rfl dX12_later_16 ?_
      refine ts_bipush rfl dX12_later_17 ?_
      refine td_iremK (by decide) dX12_later_19 ?_
      refine tq_callV (y2 := mX12_isPerson) [tv_I (tv_rem a1 10)] [] 1 (st' := fun r16 => [tv_I r16]) tw_X12_isPerson tx_X12_isPerson tw_c12 ga_m_1 tl_X12_188 rfl rfl rfl rfl (fun _ => rfl) dX12_later_20 (S_X12_isPerson l hE _ (tv_rem a1 10) D15) (fun r16 D17 => ?_)
      refine td_if_ne (tgt := 35) rfl dX12_later_23 ?_ ?_
      · refine ts_iload_n (i := 1) rfl rfl dX12_later_26 ?_
        refine ts_bipush rfl dX12_later_27 ?_
        refine td_iremK (by decide) dX12_later_29 ?_
        refine ts_bipush rfl dX12_later_30 ?_
        refine td_icmp_lt (tgt := 45) rfl dX12_later_32 ?_ ?_
        · refine ts_iconst rfl dX12_later_45 ?_
          exact td_iret rfl dX12_later_46
        · exact S_X12_later_35 hE d a1 a2 D17
      · exact S_X12_later_35 hE d a1 a2 D17
def F_X12_still_16 : Nat → Int → Int → td_D → Option (Int × td_D)
  | 0, _, _, _ => none
  | n + 1, v1, v2, D =>
    if 99 < v2 then
      some ((-2), D)
    else
      td_b (F_X12_goDay v1 v2 D) fun r1 D2 =>
      if r1 = 0 then
        some (v2, D2)
      else
        F_X12_still_16 n v1 (tv_w (v2 + 1)) D2
set_option maxHeartbeats 4000000 in
set_option maxRecDepth 20000 in
theorem S_X12_still_16 {l : Launch} {E : tv_E} (hE : tv_hE E) (d : Nat) : ∀ (n : Nat) (v1 : Int) (v2 : Int) (D : td_D), td_sim l E (d + 5) mX12_still g_m 16 [tv_R 1, tv_I v1, tv_I v2] [] D (F_X12_still_16 n v1 v2 D) := by
  intro n
  induction n with
  | zero => intros; exact tv_none
  | succ n ih =>
    intro v1 v2 D
    show td_sim _ _ _ _ _ _ _ _ _ (F_X12_still_16 (n + 1) v1 v2 D)
    unfold F_X12_still_16
    refine ts_iload_n (i := 2) rfl rfl dX12_still_16 ?_
    refine ts_bipush rfl dX12_still_17 ?_
    refine td_icmp_gt (tgt := 39) rfl dX12_still_19 ?_ ?_
    · refine ts_bipush rfl dX12_still_39 ?_
      exact td_iret rfl dX12_still_41
    · refine ts_aload_n (i := 0) rfl rfl dX12_still_22 ?_
      refine ts_iload_n (i := 1) rfl rfl dX12_still_23 ?_
      refine ts_iload_n (i := 2) rfl rfl dX12_still_24 ?_
      refine tq_callV (y2 := mX12_goDay) [tv_I v1, tv_I v2] [] 1 (st' := fun r1 => [tv_I r1]) tw_X12_goDay tx_X12_goDay tw_c12 ga_m_1 tl_X12_292 rfl rfl rfl rfl (fun _ => rfl) dX12_still_25 (S_X12_goDay l hE _ v1 v2 D) (fun r1 D2 => ?_)
      refine td_if_ne (tgt := 33) rfl dX12_still_28 ?_ ?_
      · refine ts_iload_n (i := 2) rfl rfl dX12_still_31 ?_
        exact td_iret rfl dX12_still_32
      · refine tq_iinc [tv_R 1, tv_I v1, tv_I (tv_w (v2 + 1))] rfl rfl rfl dX12_still_33 ?_
        refine ts_goto (tgt := 16) rfl dX12_still_36 ?_
        exact ih v1 (tv_w (v2 + 1)) D2
def F_X12_still (a1 : Int) (D : td_D) : Option (Int × td_D) :=
  td_b (F_X12_isHive a1 D) fun r3 D4 =>
  if r3 = 0 then
    some ((-1), D4)
  else
    td_b (F_X12_layNow D4) fun _ D6 =>
    F_X12_still_16 tf_N a1 0 D6
set_option maxHeartbeats 4000000 in
set_option maxRecDepth 20000 in
theorem S_X12_still (l : Launch) {E : tv_E} (hE : tv_hE E) (d : Nat) (a1 : Int) (D : td_D) : td_msim l E (d + 5) mX12_still g_m [tv_R 1, tv_I a1] D (F_X12_still a1 D) := by
  refine td_meetL (ls := [tv_R 1, tv_I a1, tv_U]) rfl (Nat.le_of_ble_eq_true rfl) rfl ?_
  unfold F_X12_still
  refine ts_aload_n (i := 0) rfl rfl dX12_still_0 ?_
  refine ts_iload_n (i := 1) rfl rfl dX12_still_1 ?_
  refine tq_callV (y2 := mX12_isHive) [tv_I a1] [] 1 (st' := fun r3 => [tv_I r3]) tw_X12_isHive tx_X12_isHive tw_c12 ga_m_1 tl_X12_185 rfl rfl rfl rfl (fun _ => rfl) dX12_still_2 (S_X12_isHive l hE _ a1 D) (fun r3 D4 => ?_)
  refine td_if_ne (tgt := 10) rfl dX12_still_5 ?_ ?_
  · refine ts_iconst rfl dX12_still_8 ?_
    exact td_iret rfl dX12_still_9
  · refine ts_aload_n (i := 0) rfl rfl dX12_still_10 ?_
    refine tq_callV (y2 := mX12_layNow) [] [] 1 (st' := fun _ => []) tw_X12_layNow tx_X12_layNow tw_c12 ga_m_1 tl_X12_289 rfl rfl rfl rfl (fun _ => rfl) dX12_still_11 (S_X12_layNow l hE _ D4) (fun r5 D6 => ?_)
    refine ts_iconst rfl dX12_still_14 ?_
    refine tq_istore_n [tv_R 1, tv_I a1, tv_I 0] rfl (Nat.le_of_ble_eq_true rfl) rfl rfl dX12_still_15 ?_
    exact S_X12_still_16 hE d tf_N a1 0 D6
def F_X12_mayDo (a1 : Int) (a2 : Int) (D : td_D) : Option (Int × td_D) :=
  if 0 ≤ a1 ∧ a1 < ((10 : Nat) : Int) then
    if a2 < D 5 (Int.toNat a1) then
      some (0, D)
    else
      if D 6 (Int.toNat a1) < a2 then
        some (0, D)
      else
        some (1, D)
  else none
set_option maxHeartbeats 4000000 in
set_option maxRecDepth 20000 in
theorem S_X12_mayDo (l : Launch) {E : tv_E} (hE : tv_hE E) (d : Nat) (a1 : Int) (a2 : Int) (D : td_D) : td_msim l E (d + 0) mX12_mayDo g_m [tv_R 1, tv_I a1, tv_I a2] D (F_X12_mayDo a1 a2 D) := by
  refine td_meetL (ls := [tv_R 1, tv_I a1, tv_I a2]) rfl (Nat.le_of_ble_eq_true rfl) rfl ?_
  unfold F_X12_mayDo
  refine ts_iload_n (i := 2) rfl rfl dX12_mayDo_0 ?_
  refine ts_aload_n (i := 0) rfl rfl dX12_mayDo_1 ?_
  refine td_getR (q := 5) tl_X12_19 rfl ga_m_1 rfl dX12_mayDo_2 ?_
  refine ts_iload_n (i := 1) rfl rfl dX12_mayDo_5 ?_
  refine td_guard (fun h1 => ?_)
  refine td_ialdK ga_m_5 (gn_m_5 _) h1 dX12_mayDo_6 ?_
  refine td_icmp_lt (tgt := 24) rfl dX12_mayDo_7 ?_ ?_
  · refine ts_iconst rfl dX12_mayDo_24 ?_
    exact td_zretK (Or.inl rfl) rfl dX12_mayDo_25
  · refine ts_iload_n (i := 2) rfl rfl dX12_mayDo_10 ?_
    refine ts_aload_n (i := 0) rfl rfl dX12_mayDo_11 ?_
    refine td_getR (q := 6) tl_X12_22 rfl ga_m_1 rfl dX12_mayDo_12 ?_
    refine ts_iload_n (i := 1) rfl rfl dX12_mayDo_15 ?_
    refine td_ialdK ga_m_6 (gn_m_6 _) h1 dX12_mayDo_16 ?_
    refine td_icmp_gt (tgt := 24) rfl dX12_mayDo_17 ?_ ?_
    · refine ts_iconst rfl dX12_mayDo_24 ?_
      exact td_zretK (Or.inl rfl) rfl dX12_mayDo_25
    · refine ts_iconst rfl dX12_mayDo_20 ?_
      refine ts_goto (tgt := 25) rfl dX12_mayDo_21 ?_
      exact td_zretK (Or.inr rfl) rfl dX12_mayDo_25
def F_X12_lowestOn_9 : Nat → Int → Int → Int → td_D → Option (Int × td_D)
  | 0, _, _, _, _ => none
  | n + 1, v1, v2, v3, D =>
    if D 1 3 ≤ v3 then
      some (v2, D)
    else
      if 0 ≤ tv_w ((tv_w (6 * v3)) + v1) ∧ tv_w ((tv_w (6 * v3)) + v1) < ((30 : Nat) : Int) then
        if 0 ≤ v1 ∧ v1 < ((6 : Nat) : Int) then
          if D 2 (Int.toNat v1) ≤ tv_w (99 - (D 4 (Int.toNat (tv_w ((tv_w (6 * v3)) + v1))))) then
            if v2 ≤ 0 then
              F_X12_lowestOn_9 n v1 v2 (tv_w (v3 + 1)) D
            else
              F_X12_lowestOn_9 n v1 0 (tv_w (v3 + 1)) D
          else
            if v2 ≤ tv_w ((D 2 (Int.toNat v1)) - (tv_w (99 - (D 4 (Int.toNat (tv_w ((tv_w (6 * v3)) + v1))))))) then
              F_X12_lowestOn_9 n v1 v2 (tv_w (v3 + 1)) D
            else
              F_X12_lowestOn_9 n v1 (tv_w ((D 2 (Int.toNat v1)) - (tv_w (99 - (D 4 (Int.toNat (tv_w ((tv_w (6 * v3)) + v1)))))))) (tv_w (v3 + 1)) D
        else none
      else none
set_option maxHeartbeats 4000000 in
set_option maxRecDepth 20000 in
theorem S_X12_lowestOn_9 {l : Launch} {E : tv_E} (hE : tv_hE E) (d : Nat) : ∀ (n : Nat) (v1 : Int) (v2 : Int) (v3 : Int) (D : td_D), td_sim l E (d + 0) mX12_lowestOn g_m 9 [tv_R 1, tv_I v1, tv_I v2, tv_I v3, tv_U, tv_U] [] D (F_X12_lowestOn_9 n v1 v2 v3 D) := by
  intro n
  induction n with
  | zero => intros; exact tv_none
  | succ n ih =>
    intro v1 v2 v3 D
    show td_sim _ _ _ _ _ _ _ _ _ (F_X12_lowestOn_9 (n + 1) v1 v2 v3 D)
    unfold F_X12_lowestOn_9
    refine ts_iload_n (i := 3) rfl rfl dX12_lowestOn_9 ?_
    refine ts_aload_n (i := 0) rfl rfl dX12_lowestOn_10 ?_
    refine td_getI tl_X12_146 rfl ga_m_1 rfl dX12_lowestOn_11 ?_
    refine td_icmp_ge (tgt := 74) rfl dX12_lowestOn_14 ?_ ?_
    · refine ts_iload_n (i := 2) rfl rfl dX12_lowestOn_74 ?_
      exact td_iret rfl dX12_lowestOn_75
    · refine ts_bipush rfl dX12_lowestOn_17 ?_
      refine ts_aload_n (i := 0) rfl rfl dX12_lowestOn_19 ?_
      refine td_getR (q := 4) tl_X12_16 rfl ga_m_1 rfl dX12_lowestOn_20 ?_
      refine ts_bipush rfl dX12_lowestOn_23 ?_
      refine ts_iload_n (i := 3) rfl rfl dX12_lowestOn_25 ?_
      refine ts_imul dX12_lowestOn_26 ?_
      refine ts_iload_n (i := 1) rfl rfl dX12_lowestOn_27 ?_
      refine ts_iadd dX12_lowestOn_28 ?_
      refine td_guard (fun h1 => ?_)
      refine td_ialdK ga_m_4 (gn_m_4 _) h1 dX12_lowestOn_29 ?_
      refine ts_isub dX12_lowestOn_30 ?_
      refine tq_istore [tv_R 1, tv_I v1, tv_I v2, tv_I v3, tv_I (tv_w (99 - (D 4 (Int.toNat (tv_w ((tv_w (6 * v3)) + v1)))))), tv_U] (Nat.le_of_ble_eq_true rfl) rfl rfl dX12_lowestOn_31 ?_
      refine ts_aload_n (i := 0) rfl rfl dX12_lowestOn_33 ?_
      refine td_getR (q := 2) tl_X12_7 rfl ga_m_1 rfl dX12_lowestOn_34 ?_
      refine ts_iload_n (i := 1) rfl rfl dX12_lowestOn_37 ?_
      refine td_guard (fun h2 => ?_)
      refine td_ialdK ga_m_2 (gn_m_2 _) h2 dX12_lowestOn_38 ?_
      refine ts_iload rfl dX12_lowestOn_39 ?_
      refine td_icmp_le (tgt := 56) rfl dX12_lowestOn_41 ?_ ?_
      · refine ts_iconst rfl dX12_lowestOn_56 ?_
        refine tq_istore [tv_R 1, tv_I v1, tv_I v2, tv_I v3, tv_I (tv_w (99 - (D 4 (Int.toNat (tv_w ((tv_w (6 * v3)) + v1)))))), tv_I 0] (Nat.le_of_ble_eq_true rfl) rfl rfl dX12_lowestOn_57 ?_
        refine ts_iload rfl dX12_lowestOn_59 ?_
        refine ts_iload_n (i := 2) rfl rfl dX12_lowestOn_61 ?_
        refine td_icmp_ge (tgt := 68) rfl dX12_lowestOn_62 ?_ ?_
        · refine tq_iinc [tv_R 1, tv_I v1, tv_I v2, tv_I (tv_w (v3 + 1)), tv_I (tv_w (99 - (D 4 (Int.toNat (tv_w ((tv_w (6 * v3)) + v1)))))), tv_I 0] rfl rfl rfl dX12_lowestOn_68 ?_
          refine ts_goto (tgt := 9) rfl dX12_lowestOn_71 ?_
          refine tv_weak (ls' := [tv_R 1, tv_I v1, tv_I v2, tv_I (tv_w (v3 + 1)), tv_U, tv_U]) ⟨Or.inr rfl, Or.inr rfl, Or.inr rfl, Or.inr rfl, Or.inl rfl, Or.inl rfl, trivial⟩ ?_
          exact ih v1 v2 (tv_w (v3 + 1)) D
        · refine ts_iload rfl dX12_lowestOn_65 ?_
          refine tq_istore_n [tv_R 1, tv_I v1, tv_I 0, tv_I v3, tv_I (tv_w (99 - (D 4 (Int.toNat (tv_w ((tv_w (6 * v3)) + v1)))))), tv_I 0] rfl (Nat.le_of_ble_eq_true rfl) rfl rfl dX12_lowestOn_67 ?_
          refine tq_iinc [tv_R 1, tv_I v1, tv_I 0, tv_I (tv_w (v3 + 1)), tv_I (tv_w (99 - (D 4 (Int.toNat (tv_w ((tv_w (6 * v3)) + v1)))))), tv_I 0] rfl rfl rfl dX12_lowestOn_68 ?_
          refine ts_goto (tgt := 9) rfl dX12_lowestOn_71 ?_
          refine tv_weak (ls' := [tv_R 1, tv_I v1, tv_I 0, tv_I (tv_w (v3 + 1)), tv_U, tv_U]) ⟨Or.inr rfl, Or.inr rfl, Or.inr rfl, Or.inr rfl, Or.inl rfl, Or.inl rfl, trivial⟩ ?_
          exact ih v1 0 (tv_w (v3 + 1)) D
      · refine ts_aload_n (i := 0) rfl rfl dX12_lowestOn_44 ?_
        refine td_getR (q := 2) tl_X12_7 rfl ga_m_1 rfl dX12_lowestOn_45 ?_
        refine ts_iload_n (i := 1) rfl rfl dX12_lowestOn_48 ?_
        refine td_ialdK ga_m_2 (gn_m_2 _) h2 dX12_lowestOn_49 ?_
        refine ts_iload rfl dX12_lowestOn_50 ?_
        refine ts_isub dX12_lowestOn_52 ?_
        refine ts_goto (tgt := 57) rfl dX12_lowestOn_53 ?_
        refine tq_istore [tv_R 1, tv_I v1, tv_I v2, tv_I v3, tv_I (tv_w (99 - (D 4 (Int.toNat (tv_w ((tv_w (6 * v3)) + v1)))))), tv_I (tv_w ((D 2 (Int.toNat v1)) - (tv_w (99 - (D 4 (Int.toNat (tv_w ((tv_w (6 * v3)) + v1))))))))] (Nat.le_of_ble_eq_true rfl) rfl rfl dX12_lowestOn_57 ?_
        refine ts_iload rfl dX12_lowestOn_59 ?_
        refine ts_iload_n (i := 2) rfl rfl dX12_lowestOn_61 ?_
        refine td_icmp_ge (tgt := 68) rfl dX12_lowestOn_62 ?_ ?_
        · refine tq_iinc [tv_R 1, tv_I v1, tv_I v2, tv_I (tv_w (v3 + 1)), tv_I (tv_w (99 - (D 4 (Int.toNat (tv_w ((tv_w (6 * v3)) + v1)))))), tv_I (tv_w ((D 2 (Int.toNat v1)) - (tv_w (99 - (D 4 (Int.toNat (tv_w ((tv_w (6 * v3)) + v1))))))))] rfl rfl rfl dX12_lowestOn_68 ?_
          refine ts_goto (tgt := 9) rfl dX12_lowestOn_71 ?_
          refine tv_weak (ls' := [tv_R 1, tv_I v1, tv_I v2, tv_I (tv_w (v3 + 1)), tv_U, tv_U]) ⟨Or.inr rfl, Or.inr rfl, Or.inr rfl, Or.inr rfl, Or.inl rfl, Or.inl rfl, trivial⟩ ?_
          exact ih v1 v2 (tv_w (v3 + 1)) D
        · refine ts_iload rfl dX12_lowestOn_65 ?_
          refine tq_istore_n [tv_R 1, tv_I v1, tv_I (tv_w ((D 2 (Int.toNat v1)) - (tv_w (99 - (D 4 (Int.toNat (tv_w ((tv_w (6 * v3)) + v1)))))))), tv_I v3, tv_I (tv_w (99 - (D 4 (Int.toNat (tv_w ((tv_w (6 * v3)) + v1)))))), tv_I (tv_w ((D 2 (Int.toNat v1)) - (tv_w (99 - (D 4 (Int.toNat (tv_w ((tv_w (6 * v3)) + v1))))))))] rfl (Nat.le_of_ble_eq_true rfl) rfl rfl dX12_lowestOn_67 ?_
          refine tq_iinc [tv_R 1, tv_I v1, tv_I (tv_w ((D 2 (Int.toNat v1)) - (tv_w (99 - (D 4 (Int.toNat (tv_w ((tv_w (6 * v3)) + v1)))))))), tv_I (tv_w (v3 + 1)), tv_I (tv_w (99 - (D 4 (Int.toNat (tv_w ((tv_w (6 * v3)) + v1)))))), tv_I (tv_w ((D 2 (Int.toNat v1)) - (tv_w (99 - (D 4 (Int.toNat (tv_w ((tv_w (6 * v3)) + v1))))))))] rfl rfl rfl dX12_lowestOn_68 ?_
          refine ts_goto (tgt := 9) rfl dX12_lowestOn_71 ?_
          refine tv_weak (ls' := [tv_R 1, tv_I v1, tv_I (tv_w ((D 2 (Int.toNat v1)) - (tv_w (99 - (D 4 (Int.toNat (tv_w ((tv_w (6 * v3)) + v1)))))))), tv_I (tv_w (v3 + 1)), tv_U, tv_U]) ⟨Or.inr rfl, Or.inr rfl, Or.inr rfl, Or.inr rfl, Or.inl rfl, Or.inl rfl, trivial⟩ ?_
          exact ih v1 (tv_w ((D 2 (Int.toNat v1)) - (tv_w (99 - (D 4 (Int.toNat (tv_w ((tv_w (6 * v3)) + v1)))))))) (tv_w (v3 + 1)) D
def F_X12_lowestOn (a1 : Int) (D : td_D) : Option (Int × td_D) :=
  if 0 ≤ a1 ∧ a1 < ((6 : Nat) : Int) then
    F_X12_lowestOn_9 tf_N a1 (D 2 (Int.toNat a1)) 0 D
  else none
set_option maxHeartbeats 4000000 in
set_option maxRecDepth 20000 in
theorem S_X12_lowestOn (l : Launch) {E : tv_E} (hE : tv_hE E) (d : Nat) (a1 : Int) (D : td_D) : td_msim l E (d + 0) mX12_lowestOn g_m [tv_R 1, tv_I a1] D (F_X12_lowestOn a1 D) := by
  refine td_meetL (ls := [tv_R 1, tv_I a1, tv_U, tv_U, tv_U, tv_U]) rfl (Nat.le_of_ble_eq_true rfl) rfl ?_
  unfold F_X12_lowestOn
  refine ts_aload_n (i := 0) rfl rfl dX12_lowestOn_0 ?_
  refine td_getR (q := 2) tl_X12_7 rfl ga_m_1 rfl dX12_lowestOn_1 ?_
  refine ts_iload_n (i := 1) rfl rfl dX12_lowestOn_4 ?_
  refine td_guard (fun h3 => ?_)
  refine td_ialdK ga_m_2 (gn_m_2 _) h3 dX12_lowestOn_5 ?_
  refine tq_istore_n [tv_R 1, tv_I a1, tv_I (D 2 (Int.toNat a1)), tv_U, tv_U, tv_U] rfl (Nat.le_of_ble_eq_true rfl) rfl rfl dX12_lowestOn_6 ?_
  refine ts_iconst rfl dX12_lowestOn_7 ?_
  refine tq_istore_n [tv_R 1, tv_I a1, tv_I (D 2 (Int.toNat a1)), tv_I 0, tv_U, tv_U] rfl (Nat.le_of_ble_eq_true rfl) rfl rfl dX12_lowestOn_8 ?_
  exact S_X12_lowestOn_9 hE d tf_N a1 (D 2 (Int.toNat a1)) 0 D
def F_X12_highestOn_9 : Nat → Int → Int → Int → td_D → Option (Int × td_D)
  | 0, _, _, _, _ => none
  | n + 1, v1, v2, v3, D =>
    if D 1 3 ≤ v3 then
      if v2 ≤ 99 then
        some (v2, D)
      else
        some (99, D)
    else
      if 0 ≤ v1 ∧ v1 < ((6 : Nat) : Int) then
        if 0 ≤ tv_w ((tv_w (6 * v3)) + v1) ∧ tv_w ((tv_w (6 * v3)) + v1) < ((30 : Nat) : Int) then
          if tv_w ((D 2 (Int.toNat v1)) + (D 4 (Int.toNat (tv_w ((tv_w (6 * v3)) + v1))))) ≤ v2 then
            F_X12_highestOn_9 n v1 v2 (tv_w (v3 + 1)) D
          else
            F_X12_highestOn_9 n v1 (tv_w ((D 2 (Int.toNat v1)) + (D 4 (Int.toNat (tv_w ((tv_w (6 * v3)) + v1)))))) (tv_w (v3 + 1)) D
        else none
      else none
set_option maxHeartbeats 4000000 in
set_option maxRecDepth 20000 in
theorem S_X12_highestOn_9 {l : Launch} {E : tv_E} (hE : tv_hE E) (d : Nat) : ∀ (n : Nat) (v1 : Int) (v2 : Int) (v3 : Int) (D : td_D), td_sim l E (d + 0) mX12_highestOn g_m 9 [tv_R 1, tv_I v1, tv_I v2, tv_I v3, tv_U] [] D (F_X12_highestOn_9 n v1 v2 v3 D) := by
  intro n
  induction n with
  | zero => intros; exact tv_none
  | succ n ih =>
    intro v1 v2 v3 D
    show td_sim _ _ _ _ _ _ _ _ _ (F_X12_highestOn_9 (n + 1) v1 v2 v3 D)
    unfold F_X12_highestOn_9
    refine ts_iload_n (i := 3) rfl rfl dX12_highestOn_9 ?_
    refine ts_aload_n (i := 0) rfl rfl dX12_highestOn_10 ?_
    refine td_getI tl_X12_146 rfl ga_m_1 rfl dX12_highestOn_11 ?_
    refine td_icmp_ge (tgt := 52) rfl dX12_highestOn_14 ?_ ?_
    · refine ts_iload_n (i := 2) rfl rfl dX12_highestOn_52 ?_
      refine ts_bipush rfl dX12_highestOn_53 ?_
      refine td_icmp_le (tgt := 63) rfl dX12_highestOn_55 ?_ ?_
      · refine ts_iload_n (i := 2) rfl rfl dX12_highestOn_63 ?_
        exact td_iret rfl dX12_highestOn_64
      · refine ts_bipush rfl dX12_highestOn_58 ?_
        refine ts_goto (tgt := 64) rfl dX12_highestOn_60 ?_
        exact td_iret rfl dX12_highestOn_64
    · refine ts_aload_n (i := 0) rfl rfl dX12_highestOn_17 ?_
      refine td_getR (q := 2) tl_X12_7 rfl ga_m_1 rfl dX12_highestOn_18 ?_
      refine ts_iload_n (i := 1) rfl rfl dX12_highestOn_21 ?_
      refine td_guard (fun h1 => ?_)
      refine td_ialdK ga_m_2 (gn_m_2 _) h1 dX12_highestOn_22 ?_
      refine ts_aload_n (i := 0) rfl rfl dX12_highestOn_23 ?_
      refine td_getR (q := 4) tl_X12_16 rfl ga_m_1 rfl dX12_highestOn_24 ?_
      refine ts_bipush rfl dX12_highestOn_27 ?_
      refine ts_iload_n (i := 3) rfl rfl dX12_highestOn_29 ?_
      refine ts_imul dX12_highestOn_30 ?_
      refine ts_iload_n (i := 1) rfl rfl dX12_highestOn_31 ?_
      refine ts_iadd dX12_highestOn_32 ?_
      refine td_guard (fun h2 => ?_)
      refine td_ialdK ga_m_4 (gn_m_4 _) h2 dX12_highestOn_33 ?_
      refine ts_iadd dX12_highestOn_34 ?_
      refine tq_istore [tv_R 1, tv_I v1, tv_I v2, tv_I v3, tv_I (tv_w ((D 2 (Int.toNat v1)) + (D 4 (Int.toNat (tv_w ((tv_w (6 * v3)) + v1))))))] (Nat.le_of_ble_eq_true rfl) rfl rfl dX12_highestOn_35 ?_
      refine ts_iload rfl dX12_highestOn_37 ?_
      refine ts_iload_n (i := 2) rfl rfl dX12_highestOn_39 ?_
      refine td_icmp_le (tgt := 46) rfl dX12_highestOn_40 ?_ ?_
      · refine tq_iinc [tv_R 1, tv_I v1, tv_I v2, tv_I (tv_w (v3 + 1)), tv_I (tv_w ((D 2 (Int.toNat v1)) + (D 4 (Int.toNat (tv_w ((tv_w (6 * v3)) + v1))))))] rfl rfl rfl dX12_highestOn_46 ?_
        refine ts_goto (tgt := 9) rfl dX12_highestOn_49 ?_
        refine tv_weak (ls' := [tv_R 1, tv_I v1, tv_I v2, tv_I (tv_w (v3 + 1)), tv_U]) ⟨Or.inr rfl, Or.inr rfl, Or.inr rfl, Or.inr rfl, Or.inl rfl, trivial⟩ ?_
        exact ih v1 v2 (tv_w (v3 + 1)) D
      · refine ts_iload rfl dX12_highestOn_43 ?_
        refine tq_istore_n [tv_R 1, tv_I v1, tv_I (tv_w ((D 2 (Int.toNat v1)) + (D 4 (Int.toNat (tv_w ((tv_w (6 * v3)) + v1)))))), tv_I v3, tv_I (tv_w ((D 2 (Int.toNat v1)) + (D 4 (Int.toNat (tv_w ((tv_w (6 * v3)) + v1))))))] rfl (Nat.le_of_ble_eq_true rfl) rfl rfl dX12_highestOn_45 ?_
        refine tq_iinc [tv_R 1, tv_I v1, tv_I (tv_w ((D 2 (Int.toNat v1)) + (D 4 (Int.toNat (tv_w ((tv_w (6 * v3)) + v1)))))), tv_I (tv_w (v3 + 1)), tv_I (tv_w ((D 2 (Int.toNat v1)) + (D 4 (Int.toNat (tv_w ((tv_w (6 * v3)) + v1))))))] rfl rfl rfl dX12_highestOn_46 ?_
        refine ts_goto (tgt := 9) rfl dX12_highestOn_49 ?_
        refine tv_weak (ls' := [tv_R 1, tv_I v1, tv_I (tv_w ((D 2 (Int.toNat v1)) + (D 4 (Int.toNat (tv_w ((tv_w (6 * v3)) + v1)))))), tv_I (tv_w (v3 + 1)), tv_U]) ⟨Or.inr rfl, Or.inr rfl, Or.inr rfl, Or.inr rfl, Or.inl rfl, trivial⟩ ?_
        exact ih v1 (tv_w ((D 2 (Int.toNat v1)) + (D 4 (Int.toNat (tv_w ((tv_w (6 * v3)) + v1)))))) (tv_w (v3 + 1)) D
def F_X12_highestOn (a1 : Int) (D : td_D) : Option (Int × td_D) :=
  if 0 ≤ a1 ∧ a1 < ((6 : Nat) : Int) then
    F_X12_highestOn_9 tf_N a1 (D 2 (Int.toNat a1)) 0 D
  else none
set_option maxHeartbeats 4000000 in
set_option maxRecDepth 20000 in
theorem S_X12_highestOn (l : Launch) {E : tv_E} (hE : tv_hE E) (d : Nat) (a1 : Int) (D : td_D) : td_msim l E (d + 0) mX12_highestOn g_m [tv_R 1, tv_I a1] D (F_X12_highestOn a1 D) := by
  refine td_meetL (ls := [tv_R 1, tv_I a1, tv_U, tv_U, tv_U]) rfl (Nat.le_of_ble_eq_true rfl) rfl ?_
  unfold F_X12_highestOn
  refine ts_aload_n (i := 0) rfl rfl dX12_highestOn_0 ?_
  refine td_getR (q := 2) tl_X12_7 rfl ga_m_1 rfl dX12_highestOn_1 ?_
  refine ts_iload_n (i := 1) rfl rfl dX12_highestOn_4 ?_
  refine td_guard (fun h3 => ?_)
  refine td_ialdK ga_m_2 (gn_m_2 _) h3 dX12_highestOn_5 ?_
  refine tq_istore_n [tv_R 1, tv_I a1, tv_I (D 2 (Int.toNat a1)), tv_U, tv_U] rfl (Nat.le_of_ble_eq_true rfl) rfl rfl dX12_highestOn_6 ?_
  refine ts_iconst rfl dX12_highestOn_7 ?_
  refine tq_istore_n [tv_R 1, tv_I a1, tv_I (D 2 (Int.toNat a1)), tv_I 0, tv_U] rfl (Nat.le_of_ble_eq_true rfl) rfl rfl dX12_highestOn_8 ?_
  exact S_X12_highestOn_9 hE d tf_N a1 (D 2 (Int.toNat a1)) 0 D
def F_X12_can_64 : Nat → Int → Int → Int → Int → td_D → Option (Int × td_D)
  | 0, _, _, _, _, _ => none
  | n + 1, v3, v4, v5, v6, D =>
    if D 1 6 ≤ v6 then
      some (v5, D)
    else
      if 0 ≤ v6 ∧ v6 < ((10 : Nat) : Int) then
        if v4 < D 5 (Int.toNat v6) then
          F_X12_can_64 n v3 v4 v5 (tv_w (v6 + 1)) D
        else
          if D 6 (Int.toNat v6) < v3 then
            F_X12_can_64 n v3 v4 v5 (tv_w (v6 + 1)) D
          else
            F_X12_can_64 n v3 v4 (tv_or v5 (tv_shl 1 v6)) (tv_w (v6 + 1)) D
      else none
set_option maxHeartbeats 4000000 in
set_option maxRecDepth 20000 in
theorem S_X12_can_64 {l : Launch} {E : tv_E} (hE : tv_hE E) (d : Nat) : ∀ (n : Nat) (v3 : Int) (v4 : Int) (v5 : Int) (v6 : Int) (D : td_D), td_sim l E (d + 2) mX12_can g_m 64 [tv_R 1, tv_U, tv_U, tv_I v3, tv_I v4, tv_I v5, tv_I v6] [] D (F_X12_can_64 n v3 v4 v5 v6 D) := by
  intro n
  induction n with
  | zero => intros; exact tv_none
  | succ n ih =>
    intro v3 v4 v5 v6 D
    show td_sim _ _ _ _ _ _ _ _ _ (F_X12_can_64 (n + 1) v3 v4 v5 v6 D)
    unfold F_X12_can_64
    refine ts_iload rfl dX12_can_64 ?_
    refine ts_aload_n (i := 0) rfl rfl dX12_can_66 ?_
    refine td_getI tl_X12_149 rfl ga_m_1 rfl dX12_can_67 ?_
    refine td_icmp_ge (tgt := 111) rfl dX12_can_70 ?_ ?_
    · refine ts_iload rfl dX12_can_111 ?_
      exact td_iret rfl dX12_can_113
    · refine ts_aload_n (i := 0) rfl rfl dX12_can_73 ?_
      refine td_getR (q := 5) tl_X12_19 rfl ga_m_1 rfl dX12_can_74 ?_
      refine ts_iload rfl dX12_can_77 ?_
      refine td_guard (fun h1 => ?_)
      refine td_ialdK ga_m_5 (gn_m_5 _) h1 dX12_can_79 ?_
      refine ts_iload rfl dX12_can_80 ?_
      refine td_icmp_gt (tgt := 105) rfl dX12_can_82 ?_ ?_
      · refine tq_iinc [tv_R 1, tv_U, tv_U, tv_I v3, tv_I v4, tv_I v5, tv_I (tv_w (v6 + 1))] rfl rfl rfl dX12_can_105 ?_
        refine ts_goto (tgt := 64) rfl dX12_can_108 ?_
        exact ih v3 v4 v5 (tv_w (v6 + 1)) D
      · refine ts_aload_n (i := 0) rfl rfl dX12_can_85 ?_
        refine td_getR (q := 6) tl_X12_22 rfl ga_m_1 rfl dX12_can_86 ?_
        refine ts_iload rfl dX12_can_89 ?_
        refine td_ialdK ga_m_6 (gn_m_6 _) h1 dX12_can_91 ?_
        refine ts_iload_n (i := 3) rfl rfl dX12_can_92 ?_
        refine td_icmp_lt (tgt := 105) rfl dX12_can_93 ?_ ?_
        · refine tq_iinc [tv_R 1, tv_U, tv_U, tv_I v3, tv_I v4, tv_I v5, tv_I (tv_w (v6 + 1))] rfl rfl rfl dX12_can_105 ?_
          refine ts_goto (tgt := 64) rfl dX12_can_108 ?_
          exact ih v3 v4 v5 (tv_w (v6 + 1)) D
        · refine ts_iload rfl dX12_can_96 ?_
          refine ts_iconst rfl dX12_can_98 ?_
          refine ts_iload rfl dX12_can_99 ?_
          refine ts_ishl dX12_can_101 ?_
          refine ts_ior dX12_can_102 ?_
          refine tq_istore [tv_R 1, tv_U, tv_U, tv_I v3, tv_I v4, tv_I (tv_or v5 (tv_shl 1 v6)), tv_I v6] (Nat.le_of_ble_eq_true rfl) rfl rfl dX12_can_103 ?_
          refine tq_iinc [tv_R 1, tv_U, tv_U, tv_I v3, tv_I v4, tv_I (tv_or v5 (tv_shl 1 v6)), tv_I (tv_w (v6 + 1))] rfl rfl rfl dX12_can_105 ?_
          refine ts_goto (tgt := 64) rfl dX12_can_108 ?_
          exact ih v3 v4 (tv_or v5 (tv_shl 1 v6)) (tv_w (v6 + 1)) D
def F_X12_can_37 (v1 : Int) (v2 : Int) (s0 : Int) (D : td_D) : Option (Int × td_D) :=
  if v2 = 0 then
    if 0 ≤ v1 ∧ v1 < ((6 : Nat) : Int) then
      F_X12_can_64 tf_N s0 (D 2 (Int.toNat v1)) 0 0 D
    else none
  else
    td_b (F_X12_highestOn v1 D) fun r3 D4 =>
    F_X12_can_64 tf_N s0 r3 0 0 D4
set_option maxHeartbeats 4000000 in
set_option maxRecDepth 20000 in
theorem S_X12_can_37 {l : Launch} {E : tv_E} (hE : tv_hE E) (d : Nat) (v1 : Int) (v2 : Int) (s0 : Int) (D : td_D) : td_sim l E (d + 2) mX12_can g_m 37 [tv_R 1, tv_I v1, tv_I v2, tv_U, tv_U, tv_U, tv_U] [tv_I s0] D (F_X12_can_37 v1 v2 s0 D) := by
  unfold F_X12_can_37
  refine tq_istore_n [tv_R 1, tv_I v1, tv_I v2, tv_I s0, tv_U, tv_U, tv_U] rfl (Nat.le_of_ble_eq_true rfl) rfl rfl dX12_can_37 ?_
  refine ts_iload_n (i := 2) rfl rfl dX12_can_38 ?_
  refine td_if_ne (tgt := 51) rfl dX12_can_39 ?_ ?_
  · refine ts_aload_n (i := 0) rfl rfl dX12_can_42 ?_
    refine td_getR (q := 2) tl_X12_7 rfl ga_m_1 rfl dX12_can_43 ?_
    refine ts_iload_n (i := 1) rfl rfl dX12_can_46 ?_
    refine td_guard (fun h2 => ?_)
    refine td_ialdK ga_m_2 (gn_m_2 _) h2 dX12_can_47 ?_
    refine ts_goto (tgt := 56) rfl dX12_can_48 ?_
    refine tq_istore [tv_R 1, tv_I v1, tv_I v2, tv_I s0, tv_I (D 2 (Int.toNat v1)), tv_U, tv_U] (Nat.le_of_ble_eq_true rfl) rfl rfl dX12_can_56 ?_
    refine ts_iconst rfl dX12_can_58 ?_
    refine tq_istore [tv_R 1, tv_I v1, tv_I v2, tv_I s0, tv_I (D 2 (Int.toNat v1)), tv_I 0, tv_U] (Nat.le_of_ble_eq_true rfl) rfl rfl dX12_can_59 ?_
    refine ts_iconst rfl dX12_can_61 ?_
    refine tq_istore [tv_R 1, tv_I v1, tv_I v2, tv_I s0, tv_I (D 2 (Int.toNat v1)), tv_I 0, tv_I 0] (Nat.le_of_ble_eq_true rfl) rfl rfl dX12_can_62 ?_
    refine tv_weak (ls' := [tv_R 1, tv_U, tv_U, tv_I s0, tv_I (D 2 (Int.toNat v1)), tv_I 0, tv_I 0]) ⟨Or.inr rfl, Or.inl rfl, Or.inl rfl, Or.inr rfl, Or.inr rfl, Or.inr rfl, Or.inr rfl, trivial⟩ ?_
    exact S_X12_can_64 hE d tf_N s0 (D 2 (Int.toNat v1)) 0 0 D
  · refine ts_aload_n (i := 0) rfl rfl dX12_can_51 ?_
    refine ts_iload_n (i := 1) rfl rfl dX12_can_52 ?_
    refine tq_callV (y2 := mX12_highestOn) [tv_I v1] [] 1 (st' := fun r3 => [tv_I r3]) tw_X12_highestOn tx_X12_highestOn tw_c12 ga_m_1 tl_X12_301 rfl rfl rfl rfl (fun _ => rfl) dX12_can_53 (S_X12_highestOn l hE _ v1 D) (fun r3 D4 => ?_)
    refine tq_istore [tv_R 1, tv_I v1, tv_I v2, tv_I s0, tv_I r3, tv_U, tv_U] (Nat.le_of_ble_eq_true rfl) rfl rfl dX12_can_56 ?_
    refine ts_iconst rfl dX12_can_58 ?_
    refine tq_istore [tv_R 1, tv_I v1, tv_I v2, tv_I s0, tv_I r3, tv_I 0, tv_U] (Nat.le_of_ble_eq_true rfl) rfl rfl dX12_can_59 ?_
    refine ts_iconst rfl dX12_can_61 ?_
    refine tq_istore [tv_R 1, tv_I v1, tv_I v2, tv_I s0, tv_I r3, tv_I 0, tv_I 0] (Nat.le_of_ble_eq_true rfl) rfl rfl dX12_can_62 ?_
    refine tv_weak (ls' := [tv_R 1, tv_U, tv_U, tv_I s0, tv_I r3, tv_I 0, tv_I 0]) ⟨Or.inr rfl, Or.inl rfl, Or.inl rfl, Or.inr rfl, Or.inr rfl, Or.inr rfl, Or.inr rfl, trivial⟩ ?_
    exact S_X12_can_64 hE d tf_N s0 r3 0 0 D4
def F_X12_can (a1 : Int) (a2 : Int) (D : td_D) : Option (Int × td_D) :=
  td_b (F_X12_isPerson a1 D) fun r5 D6 =>
  if r5 = 0 then
    some ((-1), D6)
  else
    td_b (F_X12_in a2 0 1 D6) fun r7 D8 =>
    if r7 = 0 then
      some ((-1), D8)
    else
      if a2 = 0 then
        if 0 ≤ a1 ∧ a1 < ((6 : Nat) : Int) then
          F_X12_can_37 a1 a2 (D8 2 (Int.toNat a1)) D8
        else none
      else
        td_b (F_X12_lowestOn a1 D8) fun r10 D11 =>
        F_X12_can_37 a1 a2 r10 D11
set_option maxHeartbeats 4000000 in
set_option maxRecDepth 20000 in
theorem S_X12_can (l : Launch) {E : tv_E} (hE : tv_hE E) (d : Nat) (a1 : Int) (a2 : Int) (D : td_D) : td_msim l E (d + 2) mX12_can g_m [tv_R 1, tv_I a1, tv_I a2] D (F_X12_can a1 a2 D) := by
  refine td_meetL (ls := [tv_R 1, tv_I a1, tv_I a2, tv_U, tv_U, tv_U, tv_U]) rfl (Nat.le_of_ble_eq_true rfl) rfl ?_
  unfold F_X12_can
  refine ts_aload_n (i := 0) rfl rfl dX12_can_0 ?_
  refine ts_iload_n (i := 1) rfl rfl dX12_can_1 ?_
  refine tq_callV (y2 := mX12_isPerson) [tv_I a1] [] 1 (st' := fun r5 => [tv_I r5]) tw_X12_isPerson tx_X12_isPerson tw_c12 ga_m_1 tl_X12_188 rfl rfl rfl rfl (fun _ => rfl) dX12_can_2 (S_X12_isPerson l hE _ a1 D) (fun r5 D6 => ?_)
  refine td_if_eq (tgt := 17) rfl dX12_can_5 ?_ ?_
  · refine ts_iconst rfl dX12_can_17 ?_
    exact td_iret rfl dX12_can_18
  · refine ts_iload_n (i := 2) rfl rfl dX12_can_8 ?_
    refine ts_iconst rfl dX12_can_9 ?_
    refine ts_iconst rfl dX12_can_10 ?_
    refine tq_callS (y2 := mX12_in) [tv_I a2, tv_I 0, tv_I 1] [] (st' := fun r7 => [tv_I r7]) tw_X12_in tx_X12_in tl_X12_142 rfl rfl rfl rfl (fun _ => rfl) dX12_can_11 (S_X12_in l hE _ a2 0 1 D6) (fun r7 D8 => ?_)
    refine td_if_ne (tgt := 19) rfl dX12_can_14 ?_ ?_
    · refine ts_iconst rfl dX12_can_17 ?_
      exact td_iret rfl dX12_can_18
    · refine ts_iload_n (i := 2) rfl rfl dX12_can_19 ?_
      refine td_if_ne (tgt := 32) rfl dX12_can_20 ?_ ?_
      · refine ts_aload_n (i := 0) rfl rfl dX12_can_23 ?_
        refine td_getR (q := 2) tl_X12_7 rfl ga_m_1 rfl dX12_can_24 ?_
        refine ts_iload_n (i := 1) rfl rfl dX12_can_27 ?_
        refine td_guard (fun h9 => ?_)
        refine td_ialdK ga_m_2 (gn_m_2 _) h9 dX12_can_28 ?_
        refine ts_goto (tgt := 37) rfl dX12_can_29 ?_
        exact S_X12_can_37 hE d a1 a2 (D8 2 (Int.toNat a1)) D8
      · refine ts_aload_n (i := 0) rfl rfl dX12_can_32 ?_
        refine ts_iload_n (i := 1) rfl rfl dX12_can_33 ?_
        refine tq_callV (y2 := mX12_lowestOn) [tv_I a1] [] 1 (st' := fun r10 => [tv_I r10]) tw_X12_lowestOn tx_X12_lowestOn tw_c12 ga_m_1 tl_X12_298 rfl rfl rfl rfl (fun _ => rfl) dX12_can_34 (S_X12_lowestOn l hE _ a1 D8) (fun r10 D11 => ?_)
        exact S_X12_can_37 hE d a1 a2 r10 D11
def F_X12_rowFault (a1 : Int) (a2 : Int) (D : td_D) : Option (Int × td_D) :=
  if 0 ≤ a1 ∧ a1 < ((6 : Nat) : Int) then
    if D 37 (Int.toNat a1) = (-1) then
      some ((-11), D)
    else
      if D 37 (Int.toNat a1) = tv_w (((-2)) - a2) then
        some (0, D)
      else
        some ((-12), D)
  else none
set_option maxHeartbeats 4000000 in
set_option maxRecDepth 20000 in
theorem S_X12_rowFault (l : Launch) {E : tv_E} (hE : tv_hE E) (d : Nat) (a1 : Int) (a2 : Int) (D : td_D) : td_msim l E (d + 0) mX12_rowFault g_m [tv_R 1, tv_I a1, tv_I a2] D (F_X12_rowFault a1 a2 D) := by
  refine td_meetL (ls := [tv_R 1, tv_I a1, tv_I a2]) rfl (Nat.le_of_ble_eq_true rfl) rfl ?_
  unfold F_X12_rowFault
  refine ts_aload_n (i := 0) rfl rfl dX12_rowFault_0 ?_
  refine td_getR (q := 37) tl_X12_118 rfl ga_m_1 rfl dX12_rowFault_1 ?_
  refine ts_iload_n (i := 1) rfl rfl dX12_rowFault_4 ?_
  refine td_guard (fun h1 => ?_)
  refine td_ialdK ga_m_37 (gn_m_37 _) h1 dX12_rowFault_5 ?_
  refine ts_iconst rfl dX12_rowFault_6 ?_
  refine td_icmp_ne (tgt := 15) rfl dX12_rowFault_7 ?_ ?_
  · refine ts_bipush rfl dX12_rowFault_10 ?_
    refine ts_goto (tgt := 34) rfl dX12_rowFault_12 ?_
    exact td_iret rfl dX12_rowFault_34
  · refine ts_aload_n (i := 0) rfl rfl dX12_rowFault_15 ?_
    refine td_getR (q := 37) tl_X12_118 rfl ga_m_1 rfl dX12_rowFault_16 ?_
    refine ts_iload_n (i := 1) rfl rfl dX12_rowFault_19 ?_
    refine td_ialdK ga_m_37 (gn_m_37 _) h1 dX12_rowFault_20 ?_
    refine ts_bipush rfl dX12_rowFault_21 ?_
    refine ts_iload_n (i := 2) rfl rfl dX12_rowFault_23 ?_
    refine ts_isub dX12_rowFault_24 ?_
    refine td_icmp_ne (tgt := 32) rfl dX12_rowFault_25 ?_ ?_
    · refine ts_iconst rfl dX12_rowFault_28 ?_
      refine ts_goto (tgt := 34) rfl dX12_rowFault_29 ?_
      exact td_iret rfl dX12_rowFault_34
    · refine ts_bipush rfl dX12_rowFault_32 ?_
      exact td_iret rfl dX12_rowFault_34
def F_X12_at (a1 : Int) (a2 : Int) (D : td_D) : Option (Int × td_D) :=
  if 0 ≤ tv_w ((tv_w (60 * a1)) + a2) ∧ tv_w ((tv_w (60 * a1)) + a2) < ((360 : Nat) : Int) then
    some (tv_w (D 39 (Int.toNat (tv_w ((tv_w (60 * a1)) + a2)))), D)
  else none
set_option maxHeartbeats 4000000 in
set_option maxRecDepth 20000 in
theorem S_X12_at (l : Launch) {E : tv_E} (hE : tv_hE E) (d : Nat) (a1 : Int) (a2 : Int) (D : td_D) : td_msim l E (d + 0) mX12_at g_m [tv_R 1, tv_I a1, tv_I a2] D (F_X12_at a1 a2 D) := by
  refine td_meetL (ls := [tv_R 1, tv_I a1, tv_I a2]) rfl (Nat.le_of_ble_eq_true rfl) rfl ?_
  unfold F_X12_at
  refine ts_aload_n (i := 0) rfl rfl dX12_at_0 ?_
  refine td_getR (q := 39) tl_X12_124 rfl ga_m_1 rfl dX12_at_1 ?_
  refine ts_bipush rfl dX12_at_4 ?_
  refine ts_iload_n (i := 1) rfl rfl dX12_at_6 ?_
  refine ts_imul dX12_at_7 ?_
  refine ts_iload_n (i := 2) rfl rfl dX12_at_8 ?_
  refine ts_iadd dX12_at_9 ?_
  refine td_guard (fun h1 => ?_)
  refine td_laldK ga_m_39 (gn_m_39 _) h1 dX12_at_10 ?_
  refine ts_l2i dX12_at_11 ?_
  exact td_iret rfl dX12_at_12
def F_X12_layRound_5 : Nat → Int → td_D → Option (Int × td_D)
  | 0, _, _ => none
  | n + 1, v1, D =>
    if 20 ≤ D 1 35 then
      some (0, D)
    else
      if 0 ≤ v1 ∧ v1 < ((6 : Nat) : Int) then
        if D 38 (Int.toNat v1) ≤ D 1 35 then
          some (0, D)
        else
          td_b (F_X12_at v1 (D 1 35) D) fun r2 D3 =>
          td_b (F_X12_isDeed r2 D3) fun r4 D5 =>
          if r4 = 0 then
            some (0, D5)
          else
            td_b (F_X12_at v1 (D5 1 35) D5) fun r6 D7 =>
            if 0 ≤ D5 1 35 ∧ D5 1 35 < ((20 : Nat) : Int) then
              td_l (td_upd D7 23 (Int.toNat (D5 1 35)) r6) fun D9 =>
              td_l (td_upd D9 1 35 (tv_w ((D9 1 35) + 1))) fun D10 =>
              F_X12_layRound_5 n v1 D10
            else none
      else none
set_option maxHeartbeats 4000000 in
set_option maxRecDepth 20000 in
theorem S_X12_layRound_5 {l : Launch} {E : tv_E} (hE : tv_hE E) (d : Nat) : ∀ (n : Nat) (v1 : Int) (D : td_D), td_sim l E (d + 2) mX12_layRound g_m 5 [tv_R 1, tv_I v1] [] D (F_X12_layRound_5 n v1 D) := by
  intro n
  induction n with
  | zero => intros; exact tv_none
  | succ n ih =>
    intro v1 D
    show td_sim _ _ _ _ _ _ _ _ _ (F_X12_layRound_5 (n + 1) v1 D)
    unfold F_X12_layRound_5
    refine ts_aload_n (i := 0) rfl rfl dX12_layRound_5 ?_
    refine td_getI tl_X12_304 rfl ga_m_1 rfl dX12_layRound_6 ?_
    refine ts_bipush rfl dX12_layRound_9 ?_
    refine td_icmp_ge (tgt := 74) rfl dX12_layRound_11 ?_ ?_
    · exact td_vret rfl dX12_layRound_74
    · refine ts_aload_n (i := 0) rfl rfl dX12_layRound_14 ?_
      refine td_getI tl_X12_304 rfl ga_m_1 rfl dX12_layRound_15 ?_
      refine ts_aload_n (i := 0) rfl rfl dX12_layRound_18 ?_
      refine td_getR (q := 38) tl_X12_121 rfl ga_m_1 rfl dX12_layRound_19 ?_
      refine ts_iload_n (i := 1) rfl rfl dX12_layRound_22 ?_
      refine td_guard (fun h1 => ?_)
      refine td_ialdK ga_m_38 (gn_m_38 _) h1 dX12_layRound_23 ?_
      refine td_icmp_ge (tgt := 74) rfl dX12_layRound_24 ?_ ?_
      · exact td_vret rfl dX12_layRound_74
      · refine ts_aload_n (i := 0) rfl rfl dX12_layRound_27 ?_
        refine ts_aload_n (i := 0) rfl rfl dX12_layRound_28 ?_
        refine ts_iload_n (i := 1) rfl rfl dX12_layRound_29 ?_
        refine ts_aload_n (i := 0) rfl rfl dX12_layRound_30 ?_
        refine td_getI tl_X12_304 rfl ga_m_1 rfl dX12_layRound_31 ?_
        refine tq_callV (y2 := mX12_at) [tv_I v1, tv_I (D 1 35)] [tv_R 1] 1 (st' := fun r2 => [tv_I r2, tv_R 1]) tw_X12_at tx_X12_at tw_c12 ga_m_1 tl_X12_307 rfl rfl rfl rfl (fun _ => rfl) dX12_layRound_34 (S_X12_at l hE _ v1 (D 1 35) D) (fun r2 D3 => ?_)
        refine tq_callV (y2 := mX12_isDeed) [tv_I r2] [] 1 (st' := fun r4 => [tv_I r4]) tw_X12_isDeed tx_X12_isDeed tw_c12 ga_m_1 tl_X12_194 rfl rfl rfl rfl (fun _ => rfl) dX12_layRound_37 (S_X12_isDeed l hE _ r2 D3) (fun r4 D5 => ?_)
        refine td_if_eq (tgt := 74) rfl dX12_layRound_40 ?_ ?_
        · exact td_vret rfl dX12_layRound_74
        · refine ts_aload_n (i := 0) rfl rfl dX12_layRound_43 ?_
          refine td_getR (q := 23) tl_X12_75 rfl ga_m_1 rfl dX12_layRound_44 ?_
          refine ts_aload_n (i := 0) rfl rfl dX12_layRound_47 ?_
          refine td_getI tl_X12_304 rfl ga_m_1 rfl dX12_layRound_48 ?_
          refine ts_aload_n (i := 0) rfl rfl dX12_layRound_51 ?_
          refine ts_iload_n (i := 1) rfl rfl dX12_layRound_52 ?_
          refine ts_aload_n (i := 0) rfl rfl dX12_layRound_53 ?_
          refine td_getI tl_X12_304 rfl ga_m_1 rfl dX12_layRound_54 ?_
          refine tq_callV (y2 := mX12_at) [tv_I v1, tv_I (D5 1 35)] [tv_I (D5 1 35), tv_R 23] 1 (st' := fun r6 => [tv_I r6, tv_I (D5 1 35), tv_R 23]) tw_X12_at tx_X12_at tw_c12 ga_m_1 tl_X12_307 rfl rfl rfl rfl (fun _ => rfl) dX12_layRound_57 (S_X12_at l hE _ v1 (D5 1 35) D5) (fun r6 D7 => ?_)
          refine td_guard (fun h8 => ?_)
          refine td_iastK ga_m_23 (gn_m_23 _) h8 dX12_layRound_60 ?_
          refine td_let (fun D9 => ?_)
          refine ts_aload_n (i := 0) rfl rfl dX12_layRound_61 ?_
          refine ts_dupR dX12_layRound_62 ?_
          refine td_getI tl_X12_304 rfl ga_m_1 rfl dX12_layRound_63 ?_
          refine ts_iconst rfl dX12_layRound_66 ?_
          refine ts_iadd dX12_layRound_67 ?_
          refine td_putI tf_X12_304 (by intro h; cases h) rfl ga_m_1 rfl dX12_layRound_68 ?_
          refine td_let (fun D10 => ?_)
          refine ts_goto (tgt := 5) rfl dX12_layRound_71 ?_
          exact ih v1 D10
def F_X12_layRound (a1 : Int) (D : td_D) : Option (Int × td_D) :=
  td_l (td_upd D 1 35 0) fun D11 =>
  F_X12_layRound_5 tf_N a1 D11
set_option maxHeartbeats 4000000 in
set_option maxRecDepth 20000 in
theorem S_X12_layRound (l : Launch) {E : tv_E} (hE : tv_hE E) (d : Nat) (a1 : Int) (D : td_D) : td_msim l E (d + 2) mX12_layRound g_m [tv_R 1, tv_I a1] D (F_X12_layRound a1 D) := by
  refine td_meetL (ls := [tv_R 1, tv_I a1]) rfl (Nat.le_of_ble_eq_true rfl) rfl ?_
  unfold F_X12_layRound
  refine ts_aload_n (i := 0) rfl rfl dX12_layRound_0 ?_
  refine ts_iconst rfl dX12_layRound_1 ?_
  refine td_putI tf_X12_304 (by intro h; cases h) rfl ga_m_1 rfl dX12_layRound_2 ?_
  refine td_let (fun D11 => ?_)
  exact S_X12_layRound_5 hE d tf_N a1 D11
def F_X12_runFrom_85 (k19 : Int → Int → Int → td_D → Option (Int × td_D)) (v3 : Int) (v5 : Int) (v7 : Int) (s0 : Int) (D : td_D) : Option (Int × td_D) :=
  if v7 ≤ s0 then
    k19 v7 s0 (tv_w (v5 + 1)) D
  else
    td_l (td_upd D 1 36 v3) fun D1 =>
    some (v5, D1)
set_option maxHeartbeats 4000000 in
set_option maxRecDepth 20000 in
theorem S_X12_runFrom_85 {l : Launch} {E : tv_E} (hE : tv_hE E) (d : Nat) (k19 : Int → Int → Int → td_D → Option (Int × td_D)) (hk19 : ∀ (v3 : Int) (v4 : Int) (v5 : Int) (D : td_D), td_sim l E (d + 0) mX12_runFrom g_m 19 [tv_R 1, tv_U, tv_U, tv_I v3, tv_I v4, tv_I v5, tv_U, tv_U, tv_U] [] D (k19 v3 v4 v5 D)) (v3 : Int) (v5 : Int) (v7 : Int) (s0 : Int) (D : td_D) : td_sim l E (d + 0) mX12_runFrom g_m 85 [tv_R 1, tv_U, tv_U, tv_I v3, tv_U, tv_I v5, tv_U, tv_I v7, tv_U] [tv_I s0] D (F_X12_runFrom_85 k19 v3 v5 v7 s0 D) := by
  unfold F_X12_runFrom_85
  refine tq_istore [tv_R 1, tv_U, tv_U, tv_I v3, tv_U, tv_I v5, tv_U, tv_I v7, tv_I s0] (Nat.le_of_ble_eq_true rfl) rfl rfl dX12_runFrom_85 ?_
  refine ts_iload rfl dX12_runFrom_87 ?_
  refine ts_iload rfl dX12_runFrom_89 ?_
  refine td_icmp_le (tgt := 97) rfl dX12_runFrom_91 ?_ ?_
  · refine ts_iload rfl dX12_runFrom_97 ?_
    refine tq_istore_n [tv_R 1, tv_U, tv_U, tv_I v7, tv_U, tv_I v5, tv_U, tv_I v7, tv_I s0] rfl (Nat.le_of_ble_eq_true rfl) rfl rfl dX12_runFrom_99 ?_
    refine ts_iload rfl dX12_runFrom_100 ?_
    refine tq_istore [tv_R 1, tv_U, tv_U, tv_I v7, tv_I s0, tv_I v5, tv_U, tv_I v7, tv_I s0] (Nat.le_of_ble_eq_true rfl) rfl rfl dX12_runFrom_102 ?_
    refine tq_iinc [tv_R 1, tv_U, tv_U, tv_I v7, tv_I s0, tv_I (tv_w (v5 + 1)), tv_U, tv_I v7, tv_I s0] rfl rfl rfl dX12_runFrom_104 ?_
    refine ts_goto (tgt := 19) rfl dX12_runFrom_107 ?_
    refine tv_weak (ls' := [tv_R 1, tv_U, tv_U, tv_I v7, tv_I s0, tv_I (tv_w (v5 + 1)), tv_U, tv_U, tv_U]) ⟨Or.inr rfl, Or.inl rfl, Or.inl rfl, Or.inr rfl, Or.inr rfl, Or.inr rfl, Or.inl rfl, Or.inl rfl, Or.inl rfl, trivial⟩ ?_
    exact hk19 v7 s0 (tv_w (v5 + 1)) D
  · refine ts_goto (tgt := 110) rfl dX12_runFrom_94 ?_
    refine ts_aload_n (i := 0) rfl rfl dX12_runFrom_110 ?_
    refine ts_iload_n (i := 3) rfl rfl dX12_runFrom_111 ?_
    refine td_putI tf_X12_310 (by intro h; cases h) rfl ga_m_1 rfl dX12_runFrom_112 ?_
    refine td_let (fun D1 => ?_)
    refine ts_iload rfl dX12_runFrom_115 ?_
    exact td_iret rfl dX12_runFrom_117
def F_X12_runFrom_59 (k19 : Int → Int → Int → td_D → Option (Int × td_D)) (v3 : Int) (v4 : Int) (v5 : Int) (v6 : Int) (s0 : Int) (D : td_D) : Option (Int × td_D) :=
  if 0 ≤ v6 ∧ v6 < ((10 : Nat) : Int) then
    if v4 ≤ D 6 (Int.toNat v6) then
      F_X12_runFrom_85 k19 v3 v5 s0 v4 D
    else
      F_X12_runFrom_85 k19 v3 v5 s0 (D 6 (Int.toNat v6)) D
  else none
set_option maxHeartbeats 4000000 in
set_option maxRecDepth 20000 in
theorem S_X12_runFrom_59 {l : Launch} {E : tv_E} (hE : tv_hE E) (d : Nat) (k19 : Int → Int → Int → td_D → Option (Int × td_D)) (hk19 : ∀ (v3 : Int) (v4 : Int) (v5 : Int) (D : td_D), td_sim l E (d + 0) mX12_runFrom g_m 19 [tv_R 1, tv_U, tv_U, tv_I v3, tv_I v4, tv_I v5, tv_U, tv_U, tv_U] [] D (k19 v3 v4 v5 D)) (v3 : Int) (v4 : Int) (v5 : Int) (v6 : Int) (s0 : Int) (D : td_D) : td_sim l E (d + 0) mX12_runFrom g_m 59 [tv_R 1, tv_U, tv_U, tv_I v3, tv_I v4, tv_I v5, tv_I v6, tv_U, tv_U] [tv_I s0] D (F_X12_runFrom_59 k19 v3 v4 v5 v6 s0 D) := by
  unfold F_X12_runFrom_59
  refine tq_istore [tv_R 1, tv_U, tv_U, tv_I v3, tv_I v4, tv_I v5, tv_I v6, tv_I s0, tv_U] (Nat.le_of_ble_eq_true rfl) rfl rfl dX12_runFrom_59 ?_
  refine ts_aload_n (i := 0) rfl rfl dX12_runFrom_61 ?_
  refine td_getR (q := 6) tl_X12_22 rfl ga_m_1 rfl dX12_runFrom_62 ?_
  refine ts_iload rfl dX12_runFrom_65 ?_
  refine td_guard (fun h2 => ?_)
  refine td_ialdK ga_m_6 (gn_m_6 _) h2 dX12_runFrom_67 ?_
  refine ts_iload rfl dX12_runFrom_68 ?_
  refine td_icmp_ge (tgt := 83) rfl dX12_runFrom_70 ?_ ?_
  · refine ts_iload rfl dX12_runFrom_83 ?_
    refine tv_weak (ls' := [tv_R 1, tv_U, tv_U, tv_I v3, tv_U, tv_I v5, tv_U, tv_I s0, tv_U]) ⟨Or.inr rfl, Or.inl rfl, Or.inl rfl, Or.inr rfl, Or.inl rfl, Or.inr rfl, Or.inl rfl, Or.inr rfl, Or.inl rfl, trivial⟩ ?_
    exact S_X12_runFrom_85 hE d k19 (hk19) v3 v5 s0 v4 D
  · refine ts_aload_n (i := 0) rfl rfl dX12_runFrom_73 ?_
    refine td_getR (q := 6) tl_X12_22 rfl ga_m_1 rfl dX12_runFrom_74 ?_
    refine ts_iload rfl dX12_runFrom_77 ?_
    refine td_ialdK ga_m_6 (gn_m_6 _) h2 dX12_runFrom_79 ?_
    refine ts_goto (tgt := 85) rfl dX12_runFrom_80 ?_
    refine tv_weak (ls' := [tv_R 1, tv_U, tv_U, tv_I v3, tv_U, tv_I v5, tv_U, tv_I s0, tv_U]) ⟨Or.inr rfl, Or.inl rfl, Or.inl rfl, Or.inr rfl, Or.inl rfl, Or.inr rfl, Or.inl rfl, Or.inr rfl, Or.inl rfl, trivial⟩ ?_
    exact S_X12_runFrom_85 hE d k19 (hk19) v3 v5 s0 (D 6 (Int.toNat v6)) D
def F_X12_runFrom_19 : Nat → Int → Int → Int → td_D → Option (Int × td_D)
  | 0, _, _, _, _ => none
  | n + 1, v3, v4, v5, D =>
    if D 1 35 ≤ v5 then
      td_l (td_upd D 1 36 v3) fun D3 =>
      some (v5, D3)
    else
      if 0 ≤ v5 ∧ v5 < ((20 : Nat) : Int) then
        if 0 ≤ D 23 (Int.toNat v5) ∧ D 23 (Int.toNat v5) < ((10 : Nat) : Int) then
          if D 5 (Int.toNat (D 23 (Int.toNat v5))) ≤ v3 then
            F_X12_runFrom_59 (fun v3 v4 v5 D => F_X12_runFrom_19 n v3 v4 v5 D) v3 v4 v5 (D 23 (Int.toNat v5)) v3 D
          else
            F_X12_runFrom_59 (fun v3 v4 v5 D => F_X12_runFrom_19 n v3 v4 v5 D) v3 v4 v5 (D 23 (Int.toNat v5)) (D 5 (Int.toNat (D 23 (Int.toNat v5)))) D
        else none
      else none
set_option maxHeartbeats 4000000 in
set_option maxRecDepth 20000 in
theorem S_X12_runFrom_19 {l : Launch} {E : tv_E} (hE : tv_hE E) (d : Nat) : ∀ (n : Nat) (v3 : Int) (v4 : Int) (v5 : Int) (D : td_D), td_sim l E (d + 0) mX12_runFrom g_m 19 [tv_R 1, tv_U, tv_U, tv_I v3, tv_I v4, tv_I v5, tv_U, tv_U, tv_U] [] D (F_X12_runFrom_19 n v3 v4 v5 D) := by
  intro n
  induction n with
  | zero => intros; exact tv_none
  | succ n ih =>
    intro v3 v4 v5 D
    show td_sim _ _ _ _ _ _ _ _ _ (F_X12_runFrom_19 (n + 1) v3 v4 v5 D)
    unfold F_X12_runFrom_19
    refine ts_iload rfl dX12_runFrom_19 ?_
    refine ts_aload_n (i := 0) rfl rfl dX12_runFrom_21 ?_
    refine td_getI tl_X12_304 rfl ga_m_1 rfl dX12_runFrom_22 ?_
    refine td_icmp_ge (tgt := 110) rfl dX12_runFrom_25 ?_ ?_
    · refine ts_aload_n (i := 0) rfl rfl dX12_runFrom_110 ?_
      refine ts_iload_n (i := 3) rfl rfl dX12_runFrom_111 ?_
      refine td_putI tf_X12_310 (by intro h; cases h) rfl ga_m_1 rfl dX12_runFrom_112 ?_
      refine td_let (fun D3 => ?_)
      refine ts_iload rfl dX12_runFrom_115 ?_
      exact td_iret rfl dX12_runFrom_117
    · refine ts_aload_n (i := 0) rfl rfl dX12_runFrom_28 ?_
      refine td_getR (q := 23) tl_X12_75 rfl ga_m_1 rfl dX12_runFrom_29 ?_
      refine ts_iload rfl dX12_runFrom_32 ?_
      refine td_guard (fun h4 => ?_)
      refine td_ialdK ga_m_23 (gn_m_23 _) h4 dX12_runFrom_34 ?_
      refine tq_istore [tv_R 1, tv_U, tv_U, tv_I v3, tv_I v4, tv_I v5, tv_I (D 23 (Int.toNat v5)), tv_U, tv_U] (Nat.le_of_ble_eq_true rfl) rfl rfl dX12_runFrom_35 ?_
      refine ts_aload_n (i := 0) rfl rfl dX12_runFrom_37 ?_
      refine td_getR (q := 5) tl_X12_19 rfl ga_m_1 rfl dX12_runFrom_38 ?_
      refine ts_iload rfl dX12_runFrom_41 ?_
      refine td_guard (fun h5 => ?_)
      refine td_ialdK ga_m_5 (gn_m_5 _) h5 dX12_runFrom_43 ?_
      refine ts_iload_n (i := 3) rfl rfl dX12_runFrom_44 ?_
      refine td_icmp_le (tgt := 58) rfl dX12_runFrom_45 ?_ ?_
      · refine ts_iload_n (i := 3) rfl rfl dX12_runFrom_58 ?_
        exact S_X12_runFrom_59 hE d (fun v3 v4 v5 D => F_X12_runFrom_19 n v3 v4 v5 D) (fun v3 v4 v5 D => ih v3 v4 v5 D) v3 v4 v5 (D 23 (Int.toNat v5)) v3 D
      · refine ts_aload_n (i := 0) rfl rfl dX12_runFrom_48 ?_
        refine td_getR (q := 5) tl_X12_19 rfl ga_m_1 rfl dX12_runFrom_49 ?_
        refine ts_iload rfl dX12_runFrom_52 ?_
        refine td_ialdK ga_m_5 (gn_m_5 _) h5 dX12_runFrom_54 ?_
        refine ts_goto (tgt := 59) rfl dX12_runFrom_55 ?_
        exact S_X12_runFrom_59 hE d (fun v3 v4 v5 D => F_X12_runFrom_19 n v3 v4 v5 D) (fun v3 v4 v5 D => ih v3 v4 v5 D) v3 v4 v5 (D 23 (Int.toNat v5)) (D 5 (Int.toNat (D 23 (Int.toNat v5)))) D
def F_X12_runFrom (a1 : Int) (a2 : Int) (D : td_D) : Option (Int × td_D) :=
  if a2 ≤ 99 then
    F_X12_runFrom_19 tf_N 0 a2 a1 D
  else
    F_X12_runFrom_19 tf_N 0 99 a1 D
set_option maxHeartbeats 4000000 in
set_option maxRecDepth 20000 in
theorem S_X12_runFrom (l : Launch) {E : tv_E} (hE : tv_hE E) (d : Nat) (a1 : Int) (a2 : Int) (D : td_D) : td_msim l E (d + 0) mX12_runFrom g_m [tv_R 1, tv_I a1, tv_I a2] D (F_X12_runFrom a1 a2 D) := by
  refine td_meetL (ls := [tv_R 1, tv_I a1, tv_I a2, tv_U, tv_U, tv_U, tv_U, tv_U, tv_U]) rfl (Nat.le_of_ble_eq_true rfl) rfl ?_
  unfold F_X12_runFrom
  refine ts_iconst rfl dX12_runFrom_0 ?_
  refine tq_istore_n [tv_R 1, tv_I a1, tv_I a2, tv_I 0, tv_U, tv_U, tv_U, tv_U, tv_U] rfl (Nat.le_of_ble_eq_true rfl) rfl rfl dX12_runFrom_1 ?_
  refine ts_iload_n (i := 2) rfl rfl dX12_runFrom_2 ?_
  refine ts_bipush rfl dX12_runFrom_3 ?_
  refine td_icmp_le (tgt := 13) rfl dX12_runFrom_5 ?_ ?_
  · refine ts_iload_n (i := 2) rfl rfl dX12_runFrom_13 ?_
    refine tq_istore [tv_R 1, tv_I a1, tv_I a2, tv_I 0, tv_I a2, tv_U, tv_U, tv_U, tv_U] (Nat.le_of_ble_eq_true rfl) rfl rfl dX12_runFrom_14 ?_
    refine ts_iload_n (i := 1) rfl rfl dX12_runFrom_16 ?_
    refine tq_istore [tv_R 1, tv_I a1, tv_I a2, tv_I 0, tv_I a2, tv_I a1, tv_U, tv_U, tv_U] (Nat.le_of_ble_eq_true rfl) rfl rfl dX12_runFrom_17 ?_
    refine tv_weak (ls' := [tv_R 1, tv_U, tv_U, tv_I 0, tv_I a2, tv_I a1, tv_U, tv_U, tv_U]) ⟨Or.inr rfl, Or.inl rfl, Or.inl rfl, Or.inr rfl, Or.inr rfl, Or.inr rfl, Or.inl rfl, Or.inl rfl, Or.inl rfl, trivial⟩ ?_
    exact S_X12_runFrom_19 hE d tf_N 0 a2 a1 D
  · refine ts_bipush rfl dX12_runFrom_8 ?_
    refine ts_goto (tgt := 14) rfl dX12_runFrom_10 ?_
    refine tq_istore [tv_R 1, tv_I a1, tv_I a2, tv_I 0, tv_I 99, tv_U, tv_U, tv_U, tv_U] (Nat.le_of_ble_eq_true rfl) rfl rfl dX12_runFrom_14 ?_
    refine ts_iload_n (i := 1) rfl rfl dX12_runFrom_16 ?_
    refine tq_istore [tv_R 1, tv_I a1, tv_I a2, tv_I 0, tv_I 99, tv_I a1, tv_U, tv_U, tv_U] (Nat.le_of_ble_eq_true rfl) rfl rfl dX12_runFrom_17 ?_
    refine tv_weak (ls' := [tv_R 1, tv_U, tv_U, tv_I 0, tv_I 99, tv_I a1, tv_U, tv_U, tv_U]) ⟨Or.inr rfl, Or.inl rfl, Or.inl rfl, Or.inr rfl, Or.inr rfl, Or.inr rfl, Or.inl rfl, Or.inl rfl, Or.inl rfl, trivial⟩ ?_
    exact S_X12_runFrom_19 hE d tf_N 0 99 a1 D
def F_X12_goRound_132 (k90 : Int → Int → Int → td_D → Option (Int × td_D)) : Nat → Int → Int → Int → Int → td_D → Option (Int × td_D)
  | 0, _, _, _, _, _ => none
  | n + 1, v2, v3, v5, v6, D =>
    if v5 ≤ v6 then
      k90 v2 v3 v5 D
    else
      if 0 ≤ v6 ∧ v6 < ((20 : Nat) : Int) then
        td_l (td_upd D 24 (Int.toNat v6) (D 1 36)) fun D2 =>
        F_X12_goRound_132 k90 n v2 v3 v5 (tv_w (v6 + 1)) D2
      else none
set_option maxHeartbeats 4000000 in
set_option maxRecDepth 20000 in
theorem S_X12_goRound_132 {l : Launch} {E : tv_E} (hE : tv_hE E) (d : Nat) (k90 : Int → Int → Int → td_D → Option (Int × td_D)) (hk90 : ∀ (v2 : Int) (v3 : Int) (v4 : Int) (D : td_D), td_sim l E (d + 1) mX12_goRound g_m 90 [tv_R 1, tv_U, tv_I v2, tv_I v3, tv_I v4, tv_U, tv_U] [] D (k90 v2 v3 v4 D)) : ∀ (n : Nat) (v2 : Int) (v3 : Int) (v5 : Int) (v6 : Int) (D : td_D), td_sim l E (d + 1) mX12_goRound g_m 132 [tv_R 1, tv_U, tv_I v2, tv_I v3, tv_U, tv_I v5, tv_I v6] [] D (F_X12_goRound_132 k90 n v2 v3 v5 v6 D) := by
  intro n
  induction n with
  | zero => intros; exact tv_none
  | succ n ih =>
    intro v2 v3 v5 v6 D
    show td_sim _ _ _ _ _ _ _ _ _ (F_X12_goRound_132 k90 (n + 1) v2 v3 v5 v6 D)
    unfold F_X12_goRound_132
    refine ts_iload rfl dX12_goRound_132 ?_
    refine ts_iload rfl dX12_goRound_134 ?_
    refine td_icmp_ge (tgt := 156) rfl dX12_goRound_136 ?_ ?_
    · refine ts_iload rfl dX12_goRound_156 ?_
      refine tq_istore [tv_R 1, tv_U, tv_I v2, tv_I v3, tv_I v5, tv_I v5, tv_I v6] (Nat.le_of_ble_eq_true rfl) rfl rfl dX12_goRound_158 ?_
      refine ts_goto (tgt := 90) rfl dX12_goRound_160 ?_
      refine tv_weak (ls' := [tv_R 1, tv_U, tv_I v2, tv_I v3, tv_I v5, tv_U, tv_U]) ⟨Or.inr rfl, Or.inl rfl, Or.inr rfl, Or.inr rfl, Or.inr rfl, Or.inl rfl, Or.inl rfl, trivial⟩ ?_
      exact hk90 v2 v3 v5 D
    · refine ts_aload_n (i := 0) rfl rfl dX12_goRound_139 ?_
      refine td_getR (q := 24) tl_X12_78 rfl ga_m_1 rfl dX12_goRound_140 ?_
      refine ts_iload rfl dX12_goRound_143 ?_
      refine ts_aload_n (i := 0) rfl rfl dX12_goRound_145 ?_
      refine td_getI tl_X12_310 rfl ga_m_1 rfl dX12_goRound_146 ?_
      refine td_guard (fun h1 => ?_)
      refine td_iastK ga_m_24 (gn_m_24 _) h1 dX12_goRound_149 ?_
      refine td_let (fun D2 => ?_)
      refine tq_iinc [tv_R 1, tv_U, tv_I v2, tv_I v3, tv_U, tv_I v5, tv_I (tv_w (v6 + 1))] rfl rfl rfl dX12_goRound_150 ?_
      refine ts_goto (tgt := 132) rfl dX12_goRound_153 ?_
      exact ih v2 v3 v5 (tv_w (v6 + 1)) D2
def F_X12_goRound_90 : Nat → Int → Int → Int → td_D → Option (Int × td_D)
  | 0, _, _, _, _ => none
  | n + 1, v2, v3, v4, D =>
    if D 1 35 ≤ v4 then
      some (v3, D)
    else
      td_b (F_X12_runFrom v4 v2 D) fun r3 D4 =>
      if r3 = v4 then
        some ((-2), D4)
      else
        if D4 1 3 = 0 then
          some ((-2), D4)
        else
          F_X12_goRound_132 (fun v2 v3 v4 D => F_X12_goRound_90 n v2 v3 v4 D) tf_N v2 (tv_w (v3 + 1)) r3 v4 D4
set_option maxHeartbeats 4000000 in
set_option maxRecDepth 20000 in
theorem S_X12_goRound_90 {l : Launch} {E : tv_E} (hE : tv_hE E) (d : Nat) : ∀ (n : Nat) (v2 : Int) (v3 : Int) (v4 : Int) (D : td_D), td_sim l E (d + 1) mX12_goRound g_m 90 [tv_R 1, tv_U, tv_I v2, tv_I v3, tv_I v4, tv_U, tv_U] [] D (F_X12_goRound_90 n v2 v3 v4 D) := by
  intro n
  induction n with
  | zero => intros; exact tv_none
  | succ n ih =>
    intro v2 v3 v4 D
    show td_sim _ _ _ _ _ _ _ _ _ (F_X12_goRound_90 (n + 1) v2 v3 v4 D)
    unfold F_X12_goRound_90
    refine ts_iload rfl dX12_goRound_90 ?_
    refine ts_aload_n (i := 0) rfl rfl dX12_goRound_92 ?_
    refine td_getI tl_X12_304 rfl ga_m_1 rfl dX12_goRound_93 ?_
    refine td_icmp_ge (tgt := 163) rfl dX12_goRound_96 ?_ ?_
    · refine ts_iload_n (i := 3) rfl rfl dX12_goRound_163 ?_
      exact td_iret rfl dX12_goRound_164
    · refine ts_aload_n (i := 0) rfl rfl dX12_goRound_99 ?_
      refine ts_iload rfl dX12_goRound_100 ?_
      refine ts_iload_n (i := 2) rfl rfl dX12_goRound_102 ?_
      refine tq_callV (y2 := mX12_runFrom) [tv_I v4, tv_I v2] [] 1 (st' := fun r3 => [tv_I r3]) tw_X12_runFrom tx_X12_runFrom tw_c12 ga_m_1 tl_X12_316 rfl rfl rfl rfl (fun _ => rfl) dX12_goRound_103 (S_X12_runFrom l hE _ v4 v2 D) (fun r3 D4 => ?_)
      refine tq_istore [tv_R 1, tv_U, tv_I v2, tv_I v3, tv_I v4, tv_I r3, tv_U] (Nat.le_of_ble_eq_true rfl) rfl rfl dX12_goRound_106 ?_
      refine ts_iload rfl dX12_goRound_108 ?_
      refine ts_iload rfl dX12_goRound_110 ?_
      refine td_icmp_eq (tgt := 122) rfl dX12_goRound_112 ?_ ?_
      · refine ts_bipush rfl dX12_goRound_122 ?_
        exact td_iret rfl dX12_goRound_124
      · refine ts_aload_n (i := 0) rfl rfl dX12_goRound_115 ?_
        refine td_getI tl_X12_146 rfl ga_m_1 rfl dX12_goRound_116 ?_
        refine td_if_ne (tgt := 125) rfl dX12_goRound_119 ?_ ?_
        · refine ts_bipush rfl dX12_goRound_122 ?_
          exact td_iret rfl dX12_goRound_124
        · refine tq_iinc [tv_R 1, tv_U, tv_I v2, tv_I (tv_w (v3 + 1)), tv_I v4, tv_I r3, tv_U] rfl rfl rfl dX12_goRound_125 ?_
          refine ts_iload rfl dX12_goRound_128 ?_
          refine tq_istore [tv_R 1, tv_U, tv_I v2, tv_I (tv_w (v3 + 1)), tv_I v4, tv_I r3, tv_I v4] (Nat.le_of_ble_eq_true rfl) rfl rfl dX12_goRound_130 ?_
          refine tv_weak (ls' := [tv_R 1, tv_U, tv_I v2, tv_I (tv_w (v3 + 1)), tv_U, tv_I r3, tv_I v4]) ⟨Or.inr rfl, Or.inl rfl, Or.inr rfl, Or.inr rfl, Or.inl rfl, Or.inr rfl, Or.inr rfl, trivial⟩ ?_
          exact S_X12_goRound_132 hE d (fun v2 v3 v4 D => F_X12_goRound_90 n v2 v3 v4 D) (fun v2 v3 v4 D => ih v2 v3 v4 D) tf_N v2 (tv_w (v3 + 1)) r3 v4 D4
def F_X12_goRound_42 : Nat → Int → Int → Int → Int → td_D → Option (Int × td_D)
  | 0, _, _, _, _, _ => none
  | n + 1, v1, v2, v3, v4, D =>
    if D 1 35 ≤ v4 then
      F_X12_goRound_90 tf_N v2 v3 v4 D
    else
      if 0 ≤ v4 ∧ v4 < ((20 : Nat) : Int) then
        if 0 ≤ v1 ∧ v1 < ((6 : Nat) : Int) then
          td_b (F_X12_mayDo (D 23 (Int.toNat v4)) (D 2 (Int.toNat v1)) D) fun r7 D8 =>
          if r7 = 0 then
            F_X12_goRound_90 tf_N v2 v3 v4 D8
          else
            td_l (td_upd D8 24 (Int.toNat v4) (D8 2 (Int.toNat v1))) fun D9 =>
            F_X12_goRound_42 n v1 v2 v3 (tv_w (v4 + 1)) D9
        else none
      else none
set_option maxHeartbeats 4000000 in
set_option maxRecDepth 20000 in
theorem S_X12_goRound_42 {l : Launch} {E : tv_E} (hE : tv_hE E) (d : Nat) : ∀ (n : Nat) (v1 : Int) (v2 : Int) (v3 : Int) (v4 : Int) (D : td_D), td_sim l E (d + 1) mX12_goRound g_m 42 [tv_R 1, tv_I v1, tv_I v2, tv_I v3, tv_I v4, tv_U, tv_U] [] D (F_X12_goRound_42 n v1 v2 v3 v4 D) := by
  intro n
  induction n with
  | zero => intros; exact tv_none
  | succ n ih =>
    intro v1 v2 v3 v4 D
    show td_sim _ _ _ _ _ _ _ _ _ (F_X12_goRound_42 (n + 1) v1 v2 v3 v4 D)
    unfold F_X12_goRound_42
    refine ts_iload rfl dX12_goRound_42 ?_
    refine ts_aload_n (i := 0) rfl rfl dX12_goRound_44 ?_
    refine td_getI tl_X12_304 rfl ga_m_1 rfl dX12_goRound_45 ?_
    refine td_icmp_ge (tgt := 90) rfl dX12_goRound_48 ?_ ?_
    · refine tv_weak (ls' := [tv_R 1, tv_U, tv_I v2, tv_I v3, tv_I v4, tv_U, tv_U]) ⟨Or.inr rfl, Or.inl rfl, Or.inr rfl, Or.inr rfl, Or.inr rfl, Or.inl rfl, Or.inl rfl, trivial⟩ ?_
      exact S_X12_goRound_90 hE d tf_N v2 v3 v4 D
    · refine ts_aload_n (i := 0) rfl rfl dX12_goRound_51 ?_
      refine ts_aload_n (i := 0) rfl rfl dX12_goRound_52 ?_
      refine td_getR (q := 23) tl_X12_75 rfl ga_m_1 rfl dX12_goRound_53 ?_
      refine ts_iload rfl dX12_goRound_56 ?_
      refine td_guard (fun h5 => ?_)
      refine td_ialdK ga_m_23 (gn_m_23 _) h5 dX12_goRound_58 ?_
      refine ts_aload_n (i := 0) rfl rfl dX12_goRound_59 ?_
      refine td_getR (q := 2) tl_X12_7 rfl ga_m_1 rfl dX12_goRound_60 ?_
      refine ts_iload_n (i := 1) rfl rfl dX12_goRound_63 ?_
      refine td_guard (fun h6 => ?_)
      refine td_ialdK ga_m_2 (gn_m_2 _) h6 dX12_goRound_64 ?_
      refine tq_callV (y2 := mX12_mayDo) [tv_I (D 23 (Int.toNat v4)), tv_I (D 2 (Int.toNat v1))] [] 1 (st' := fun r7 => [tv_I r7]) tw_X12_mayDo tx_X12_mayDo tw_c12 ga_m_1 tl_X12_313 rfl rfl rfl rfl (fun _ => rfl) dX12_goRound_65 (S_X12_mayDo l hE _ (D 23 (Int.toNat v4)) (D 2 (Int.toNat v1)) D) (fun r7 D8 => ?_)
      refine td_if_eq (tgt := 90) rfl dX12_goRound_68 ?_ ?_
      · refine tv_weak (ls' := [tv_R 1, tv_U, tv_I v2, tv_I v3, tv_I v4, tv_U, tv_U]) ⟨Or.inr rfl, Or.inl rfl, Or.inr rfl, Or.inr rfl, Or.inr rfl, Or.inl rfl, Or.inl rfl, trivial⟩ ?_
        exact S_X12_goRound_90 hE d tf_N v2 v3 v4 D8
      · refine ts_aload_n (i := 0) rfl rfl dX12_goRound_71 ?_
        refine td_getR (q := 24) tl_X12_78 rfl ga_m_1 rfl dX12_goRound_72 ?_
        refine ts_iload rfl dX12_goRound_75 ?_
        refine ts_aload_n (i := 0) rfl rfl dX12_goRound_77 ?_
        refine td_getR (q := 2) tl_X12_7 rfl ga_m_1 rfl dX12_goRound_78 ?_
        refine ts_iload_n (i := 1) rfl rfl dX12_goRound_81 ?_
        refine td_ialdK ga_m_2 (gn_m_2 _) h6 dX12_goRound_82 ?_
        refine td_iastK ga_m_24 (gn_m_24 _) h5 dX12_goRound_83 ?_
        refine td_let (fun D9 => ?_)
        refine tq_iinc [tv_R 1, tv_I v1, tv_I v2, tv_I v3, tv_I (tv_w (v4 + 1)), tv_U, tv_U] rfl rfl rfl dX12_goRound_84 ?_
        refine ts_goto (tgt := 42) rfl dX12_goRound_87 ?_
        exact ih v1 v2 v3 (tv_w (v4 + 1)) D9
def F_X12_goRound_9 : Nat → Int → Int → Int → td_D → Option (Int × td_D)
  | 0, _, _, _, _ => none
  | n + 1, v1, v2, v3, D =>
    if D 1 3 ≤ v3 then
      F_X12_goRound_42 tf_N v1 v2 0 0 D
    else
      if 0 ≤ tv_w ((tv_w (6 * v3)) + v1) ∧ tv_w ((tv_w (6 * v3)) + v1) < ((30 : Nat) : Int) then
        F_X12_goRound_9 n v1 (tv_w (v2 + (D 4 (Int.toNat (tv_w ((tv_w (6 * v3)) + v1)))))) (tv_w (v3 + 1)) D
      else none
set_option maxHeartbeats 4000000 in
set_option maxRecDepth 20000 in
theorem S_X12_goRound_9 {l : Launch} {E : tv_E} (hE : tv_hE E) (d : Nat) : ∀ (n : Nat) (v1 : Int) (v2 : Int) (v3 : Int) (D : td_D), td_sim l E (d + 1) mX12_goRound g_m 9 [tv_R 1, tv_I v1, tv_I v2, tv_I v3, tv_U, tv_U, tv_U] [] D (F_X12_goRound_9 n v1 v2 v3 D) := by
  intro n
  induction n with
  | zero => intros; exact tv_none
  | succ n ih =>
    intro v1 v2 v3 D
    show td_sim _ _ _ _ _ _ _ _ _ (F_X12_goRound_9 (n + 1) v1 v2 v3 D)
    unfold F_X12_goRound_9
    refine ts_iload_n (i := 3) rfl rfl dX12_goRound_9 ?_
    refine ts_aload_n (i := 0) rfl rfl dX12_goRound_10 ?_
    refine td_getI tl_X12_146 rfl ga_m_1 rfl dX12_goRound_11 ?_
    refine td_icmp_ge (tgt := 37) rfl dX12_goRound_14 ?_ ?_
    · refine ts_iconst rfl dX12_goRound_37 ?_
      refine tq_istore_n [tv_R 1, tv_I v1, tv_I v2, tv_I 0, tv_U, tv_U, tv_U] rfl (Nat.le_of_ble_eq_true rfl) rfl rfl dX12_goRound_38 ?_
      refine ts_iconst rfl dX12_goRound_39 ?_
      refine tq_istore [tv_R 1, tv_I v1, tv_I v2, tv_I 0, tv_I 0, tv_U, tv_U] (Nat.le_of_ble_eq_true rfl) rfl rfl dX12_goRound_40 ?_
      exact S_X12_goRound_42 hE d tf_N v1 v2 0 0 D
    · refine ts_iload_n (i := 2) rfl rfl dX12_goRound_17 ?_
      refine ts_aload_n (i := 0) rfl rfl dX12_goRound_18 ?_
      refine td_getR (q := 4) tl_X12_16 rfl ga_m_1 rfl dX12_goRound_19 ?_
      refine ts_bipush rfl dX12_goRound_22 ?_
      refine ts_iload_n (i := 3) rfl rfl dX12_goRound_24 ?_
      refine ts_imul dX12_goRound_25 ?_
      refine ts_iload_n (i := 1) rfl rfl dX12_goRound_26 ?_
      refine ts_iadd dX12_goRound_27 ?_
      refine td_guard (fun h10 => ?_)
      refine td_ialdK ga_m_4 (gn_m_4 _) h10 dX12_goRound_28 ?_
      refine ts_iadd dX12_goRound_29 ?_
      refine tq_istore_n [tv_R 1, tv_I v1, tv_I (tv_w (v2 + (D 4 (Int.toNat (tv_w ((tv_w (6 * v3)) + v1)))))), tv_I v3, tv_U, tv_U, tv_U] rfl (Nat.le_of_ble_eq_true rfl) rfl rfl dX12_goRound_30 ?_
      refine tq_iinc [tv_R 1, tv_I v1, tv_I (tv_w (v2 + (D 4 (Int.toNat (tv_w ((tv_w (6 * v3)) + v1)))))), tv_I (tv_w (v3 + 1)), tv_U, tv_U, tv_U] rfl rfl rfl dX12_goRound_31 ?_
      refine ts_goto (tgt := 9) rfl dX12_goRound_34 ?_
      exact ih v1 (tv_w (v2 + (D 4 (Int.toNat (tv_w ((tv_w (6 * v3)) + v1)))))) (tv_w (v3 + 1)) D
def F_X12_goRound (a1 : Int) (D : td_D) : Option (Int × td_D) :=
  if 0 ≤ a1 ∧ a1 < ((6 : Nat) : Int) then
    F_X12_goRound_9 tf_N a1 (D 2 (Int.toNat a1)) 0 D
  else none
set_option maxHeartbeats 4000000 in
set_option maxRecDepth 20000 in
theorem S_X12_goRound (l : Launch) {E : tv_E} (hE : tv_hE E) (d : Nat) (a1 : Int) (D : td_D) : td_msim l E (d + 1) mX12_goRound g_m [tv_R 1, tv_I a1] D (F_X12_goRound a1 D) := by
  refine td_meetL (ls := [tv_R 1, tv_I a1, tv_U, tv_U, tv_U, tv_U, tv_U]) rfl (Nat.le_of_ble_eq_true rfl) rfl ?_
  unfold F_X12_goRound
  refine ts_aload_n (i := 0) rfl rfl dX12_goRound_0 ?_
  refine td_getR (q := 2) tl_X12_7 rfl ga_m_1 rfl dX12_goRound_1 ?_
  refine ts_iload_n (i := 1) rfl rfl dX12_goRound_4 ?_
  refine td_guard (fun h11 => ?_)
  refine td_ialdK ga_m_2 (gn_m_2 _) h11 dX12_goRound_5 ?_
  refine tq_istore_n [tv_R 1, tv_I a1, tv_I (D 2 (Int.toNat a1)), tv_U, tv_U, tv_U, tv_U] rfl (Nat.le_of_ble_eq_true rfl) rfl rfl dX12_goRound_6 ?_
  refine ts_iconst rfl dX12_goRound_7 ?_
  refine tq_istore_n [tv_R 1, tv_I a1, tv_I (D 2 (Int.toNat a1)), tv_I 0, tv_U, tv_U, tv_U] rfl (Nat.le_of_ble_eq_true rfl) rfl rfl dX12_goRound_8 ?_
  exact S_X12_goRound_9 hE d tf_N a1 (D 2 (Int.toNat a1)) 0 D
def F_X12_round (a1 : Int) (a2 : Int) (a3 : Int) (D : td_D) : Option (Int × td_D) :=
  td_b (F_X12_isShelf a1 D) fun r1 D2 =>
  if r1 = 0 then
    some ((-1), D2)
  else
    td_b (F_X12_isPerson a2 D2) fun r3 D4 =>
    if r3 = 0 then
      some ((-1), D4)
    else
      if (-1) ≤ a3 then
        td_b (F_X12_rowFault a1 0 D4) fun r5 D6 =>
        if 0 ≤ r5 then
          td_b (F_X12_layRound a1 D6) fun _ D8 =>
          td_b (F_X12_goRound a2 D8) fun r9 D10 =>
          if r9 < 0 then
            some ((-2), D10)
          else
            if a3 < D10 1 35 then
              if 0 ≤ a3 then
                if 0 ≤ a3 ∧ a3 < ((20 : Nat) : Int) then
                  some (D10 24 (Int.toNat a3), D10)
                else none
              else
                some (r9, D10)
            else
              some ((-2), D10)
        else
          some (r5, D6)
      else
        some ((-1), D4)
set_option maxHeartbeats 4000000 in
set_option maxRecDepth 20000 in
theorem S_X12_round (l : Launch) {E : tv_E} (hE : tv_hE E) (d : Nat) (a1 : Int) (a2 : Int) (a3 : Int) (D : td_D) : td_msim l E (d + 3) mX12_round g_m [tv_R 1, tv_I a1, tv_I a2, tv_I a3] D (F_X12_round a1 a2 a3 D) := by
  refine td_meetL (ls := [tv_R 1, tv_I a1, tv_I a2, tv_I a3, tv_U, tv_U]) rfl (Nat.le_of_ble_eq_true rfl) rfl ?_
  unfold F_X12_round
  refine ts_iload_n (i := 1) rfl rfl dX12_round_0 ?_
  refine tq_callS (y2 := mX12_isShelf) [tv_I a1] [] (st' := fun r1 => [tv_I r1]) tw_X12_isShelf tx_X12_isShelf tl_X12_167 rfl rfl rfl rfl (fun _ => rfl) dX12_round_1 (S_X12_isShelf l hE _ a1 D) (fun r1 D2 => ?_)
  refine td_if_eq (tgt := 20) rfl dX12_round_4 ?_ ?_
  · refine ts_iconst rfl dX12_round_20 ?_
    exact td_iret rfl dX12_round_21
  · refine ts_aload_n (i := 0) rfl rfl dX12_round_7 ?_
    refine ts_iload_n (i := 2) rfl rfl dX12_round_8 ?_
    refine tq_callV (y2 := mX12_isPerson) [tv_I a2] [] 1 (st' := fun r3 => [tv_I r3]) tw_X12_isPerson tx_X12_isPerson tw_c12 ga_m_1 tl_X12_188 rfl rfl rfl rfl (fun _ => rfl) dX12_round_9 (S_X12_isPerson l hE _ a2 D2) (fun r3 D4 => ?_)
    refine td_if_eq (tgt := 20) rfl dX12_round_12 ?_ ?_
    · refine ts_iconst rfl dX12_round_20 ?_
      exact td_iret rfl dX12_round_21
    · refine ts_iload_n (i := 3) rfl rfl dX12_round_15 ?_
      refine ts_iconst rfl dX12_round_16 ?_
      refine td_icmp_ge (tgt := 22) rfl dX12_round_17 ?_ ?_
      · refine ts_aload_n (i := 0) rfl rfl dX12_round_22 ?_
        refine ts_iload_n (i := 1) rfl rfl dX12_round_23 ?_
        refine ts_iconst rfl dX12_round_24 ?_
        refine tq_callV (y2 := mX12_rowFault) [tv_I a1, tv_I 0] [] 1 (st' := fun r5 => [tv_I r5]) tw_X12_rowFault tx_X12_rowFault tw_c12 ga_m_1 tl_X12_319 rfl rfl rfl rfl (fun _ => rfl) dX12_round_25 (S_X12_rowFault l hE _ a1 0 D4) (fun r5 D6 => ?_)
        refine tq_istore [tv_R 1, tv_I a1, tv_I a2, tv_I a3, tv_I r5, tv_U] (Nat.le_of_ble_eq_true rfl) rfl rfl dX12_round_28 ?_
        refine ts_iload rfl dX12_round_30 ?_
        refine td_if_ge (tgt := 38) rfl dX12_round_32 ?_ ?_
        · refine ts_aload_n (i := 0) rfl rfl dX12_round_38 ?_
          refine ts_iload_n (i := 1) rfl rfl dX12_round_39 ?_
          refine tq_callV (y2 := mX12_layRound) [tv_I a1] [] 1 (st' := fun _ => []) tw_X12_layRound tx_X12_layRound tw_c12 ga_m_1 tl_X12_322 rfl rfl rfl rfl (fun _ => rfl) dX12_round_40 (S_X12_layRound l hE _ a1 D6) (fun r7 D8 => ?_)
          refine ts_aload_n (i := 0) rfl rfl dX12_round_43 ?_
          refine ts_iload_n (i := 2) rfl rfl dX12_round_44 ?_
          refine tq_callV (y2 := mX12_goRound) [tv_I a2] [] 1 (st' := fun r9 => [tv_I r9]) tw_X12_goRound tx_X12_goRound tw_c12 ga_m_1 tl_X12_326 rfl rfl rfl rfl (fun _ => rfl) dX12_round_45 (S_X12_goRound l hE _ a2 D8) (fun r9 D10 => ?_)
          refine tq_istore [tv_R 1, tv_I a1, tv_I a2, tv_I a3, tv_I r5, tv_I r9] (Nat.le_of_ble_eq_true rfl) rfl rfl dX12_round_48 ?_
          refine ts_iload rfl dX12_round_50 ?_
          refine td_if_lt (tgt := 63) rfl dX12_round_52 ?_ ?_
          · refine ts_bipush rfl dX12_round_63 ?_
            exact td_iret rfl dX12_round_65
          · refine ts_iload_n (i := 3) rfl rfl dX12_round_55 ?_
            refine ts_aload_n (i := 0) rfl rfl dX12_round_56 ?_
            refine td_getI tl_X12_304 rfl ga_m_1 rfl dX12_round_57 ?_
            refine td_icmp_lt (tgt := 66) rfl dX12_round_60 ?_ ?_
            · refine ts_iload_n (i := 3) rfl rfl dX12_round_66 ?_
              refine td_if_ge (tgt := 75) rfl dX12_round_67 ?_ ?_
              · refine ts_aload_n (i := 0) rfl rfl dX12_round_75 ?_
                refine td_getR (q := 24) tl_X12_78 rfl ga_m_1 rfl dX12_round_76 ?_
                refine ts_iload_n (i := 3) rfl rfl dX12_round_79 ?_
                refine td_guard (fun h11 => ?_)
                refine td_ialdK ga_m_24 (gn_m_24 _) h11 dX12_round_80 ?_
                exact td_iret rfl dX12_round_81
              · refine ts_iload rfl dX12_round_70 ?_
                refine ts_goto (tgt := 81) rfl dX12_round_72 ?_
                exact td_iret rfl dX12_round_81
            · refine ts_bipush rfl dX12_round_63 ?_
              exact td_iret rfl dX12_round_65
        · refine ts_iload rfl dX12_round_35 ?_
          exact td_iret rfl dX12_round_37
      · refine ts_iconst rfl dX12_round_20 ?_
        exact td_iret rfl dX12_round_21
def F_X12_without_41 : Nat → Int → Int → Int → td_D → Option (Int × td_D)
  | 0, _, _, _, _ => none
  | n + 1, v2, v4, v5, D =>
    if D 1 35 ≤ v5 then
      some (v4, D)
    else
      if 0 ≤ v5 ∧ v5 < ((20 : Nat) : Int) then
        if 0 ≤ v2 ∧ v2 < ((6 : Nat) : Int) then
          td_b (F_X12_mayDo (D 23 (Int.toNat v5)) (D 2 (Int.toNat v2)) D) fun r3 D4 =>
          if r3 = 0 then
            F_X12_without_41 n v2 v4 (tv_w (v5 + 1)) D4
          else
            if 0 ≤ D4 23 (Int.toNat v5) ∧ D4 23 (Int.toNat v5) < ((10 : Nat) : Int) then
              F_X12_without_41 n v2 (tv_w (v4 + (D4 7 (Int.toNat (D4 23 (Int.toNat v5)))))) (tv_w (v5 + 1)) D4
            else none
        else none
      else none
set_option maxHeartbeats 4000000 in
set_option maxRecDepth 20000 in
theorem S_X12_without_41 {l : Launch} {E : tv_E} (hE : tv_hE E) (d : Nat) : ∀ (n : Nat) (v2 : Int) (v4 : Int) (v5 : Int) (D : td_D), td_sim l E (d + 3) mX12_without g_m 41 [tv_R 1, tv_U, tv_I v2, tv_U, tv_I v4, tv_I v5] [] D (F_X12_without_41 n v2 v4 v5 D) := by
  intro n
  induction n with
  | zero => intros; exact tv_none
  | succ n ih =>
    intro v2 v4 v5 D
    show td_sim _ _ _ _ _ _ _ _ _ (F_X12_without_41 (n + 1) v2 v4 v5 D)
    unfold F_X12_without_41
    refine ts_iload rfl dX12_without_41 ?_
    refine ts_aload_n (i := 0) rfl rfl dX12_without_43 ?_
    refine td_getI tl_X12_304 rfl ga_m_1 rfl dX12_without_44 ?_
    refine td_icmp_ge (tgt := 93) rfl dX12_without_47 ?_ ?_
    · refine ts_iload rfl dX12_without_93 ?_
      exact td_iret rfl dX12_without_95
    · refine ts_aload_n (i := 0) rfl rfl dX12_without_50 ?_
      refine ts_aload_n (i := 0) rfl rfl dX12_without_51 ?_
      refine td_getR (q := 23) tl_X12_75 rfl ga_m_1 rfl dX12_without_52 ?_
      refine ts_iload rfl dX12_without_55 ?_
      refine td_guard (fun h1 => ?_)
      refine td_ialdK ga_m_23 (gn_m_23 _) h1 dX12_without_57 ?_
      refine ts_aload_n (i := 0) rfl rfl dX12_without_58 ?_
      refine td_getR (q := 2) tl_X12_7 rfl ga_m_1 rfl dX12_without_59 ?_
      refine ts_iload_n (i := 2) rfl rfl dX12_without_62 ?_
      refine td_guard (fun h2 => ?_)
      refine td_ialdK ga_m_2 (gn_m_2 _) h2 dX12_without_63 ?_
      refine tq_callV (y2 := mX12_mayDo) [tv_I (D 23 (Int.toNat v5)), tv_I (D 2 (Int.toNat v2))] [] 1 (st' := fun r3 => [tv_I r3]) tw_X12_mayDo tx_X12_mayDo tw_c12 ga_m_1 tl_X12_313 rfl rfl rfl rfl (fun _ => rfl) dX12_without_64 (S_X12_mayDo l hE _ (D 23 (Int.toNat v5)) (D 2 (Int.toNat v2)) D) (fun r3 D4 => ?_)
      refine td_if_eq (tgt := 87) rfl dX12_without_67 ?_ ?_
      · refine tq_iinc [tv_R 1, tv_U, tv_I v2, tv_U, tv_I v4, tv_I (tv_w (v5 + 1))] rfl rfl rfl dX12_without_87 ?_
        refine ts_goto (tgt := 41) rfl dX12_without_90 ?_
        exact ih v2 v4 (tv_w (v5 + 1)) D4
      · refine ts_iload rfl dX12_without_70 ?_
        refine ts_aload_n (i := 0) rfl rfl dX12_without_72 ?_
        refine td_getR (q := 7) tl_X12_25 rfl ga_m_1 rfl dX12_without_73 ?_
        refine ts_aload_n (i := 0) rfl rfl dX12_without_76 ?_
        refine td_getR (q := 23) tl_X12_75 rfl ga_m_1 rfl dX12_without_77 ?_
        refine ts_iload rfl dX12_without_80 ?_
        refine td_ialdK ga_m_23 (gn_m_23 _) h1 dX12_without_82 ?_
        refine td_guard (fun h5 => ?_)
        refine td_ialdK ga_m_7 (gn_m_7 _) h5 dX12_without_83 ?_
        refine ts_iadd dX12_without_84 ?_
        refine tq_istore [tv_R 1, tv_U, tv_I v2, tv_U, tv_I (tv_w (v4 + (D4 7 (Int.toNat (D4 23 (Int.toNat v5)))))), tv_I v5] (Nat.le_of_ble_eq_true rfl) rfl rfl dX12_without_85 ?_
        refine tq_iinc [tv_R 1, tv_U, tv_I v2, tv_U, tv_I (tv_w (v4 + (D4 7 (Int.toNat (D4 23 (Int.toNat v5)))))), tv_I (tv_w (v5 + 1))] rfl rfl rfl dX12_without_87 ?_
        refine ts_goto (tgt := 41) rfl dX12_without_90 ?_
        exact ih v2 (tv_w (v4 + (D4 7 (Int.toNat (D4 23 (Int.toNat v5)))))) (tv_w (v5 + 1)) D4
def F_X12_without (a1 : Int) (a2 : Int) (D : td_D) : Option (Int × td_D) :=
  td_b (F_X12_isShelf a1 D) fun r6 D7 =>
  if r6 = 0 then
    some ((-1), D7)
  else
    td_b (F_X12_isPerson a2 D7) fun r8 D9 =>
    if r8 = 0 then
      some ((-1), D9)
    else
      td_b (F_X12_rowFault a1 0 D9) fun r10 D11 =>
      if 0 ≤ r10 then
        td_b (F_X12_layRound a1 D11) fun _ D13 =>
        F_X12_without_41 tf_N a2 0 0 D13
      else
        some (r10, D11)
set_option maxHeartbeats 4000000 in
set_option maxRecDepth 20000 in
theorem S_X12_without (l : Launch) {E : tv_E} (hE : tv_hE E) (d : Nat) (a1 : Int) (a2 : Int) (D : td_D) : td_msim l E (d + 3) mX12_without g_m [tv_R 1, tv_I a1, tv_I a2] D (F_X12_without a1 a2 D) := by
  refine td_meetL (ls := [tv_R 1, tv_I a1, tv_I a2, tv_U, tv_U, tv_U]) rfl (Nat.le_of_ble_eq_true rfl) rfl ?_
  unfold F_X12_without
  refine ts_iload_n (i := 1) rfl rfl dX12_without_0 ?_
  refine tq_callS (y2 := mX12_isShelf) [tv_I a1] [] (st' := fun r6 => [tv_I r6]) tw_X12_isShelf tx_X12_isShelf tl_X12_167 rfl rfl rfl rfl (fun _ => rfl) dX12_without_1 (S_X12_isShelf l hE _ a1 D) (fun r6 D7 => ?_)
  refine td_if_eq (tgt := 15) rfl dX12_without_4 ?_ ?_
  · refine ts_iconst rfl dX12_without_15 ?_
    exact td_iret rfl dX12_without_16
  · refine ts_aload_n (i := 0) rfl rfl dX12_without_7 ?_
    refine ts_iload_n (i := 2) rfl rfl dX12_without_8 ?_
    refine tq_callV (y2 := mX12_isPerson) [tv_I a2] [] 1 (st' := fun r8 => [tv_I r8]) tw_X12_isPerson tx_X12_isPerson tw_c12 ga_m_1 tl_X12_188 rfl rfl rfl rfl (fun _ => rfl) dX12_without_9 (S_X12_isPerson l hE _ a2 D7) (fun r8 D9 => ?_)
    refine td_if_ne (tgt := 17) rfl dX12_without_12 ?_ ?_
    · refine ts_iconst rfl dX12_without_15 ?_
      exact td_iret rfl dX12_without_16
    · refine ts_aload_n (i := 0) rfl rfl dX12_without_17 ?_
      refine ts_iload_n (i := 1) rfl rfl dX12_without_18 ?_
      refine ts_iconst rfl dX12_without_19 ?_
      refine tq_callV (y2 := mX12_rowFault) [tv_I a1, tv_I 0] [] 1 (st' := fun r10 => [tv_I r10]) tw_X12_rowFault tx_X12_rowFault tw_c12 ga_m_1 tl_X12_319 rfl rfl rfl rfl (fun _ => rfl) dX12_without_20 (S_X12_rowFault l hE _ a1 0 D9) (fun r10 D11 => ?_)
      refine tq_istore_n [tv_R 1, tv_I a1, tv_I a2, tv_I r10, tv_U, tv_U] rfl (Nat.le_of_ble_eq_true rfl) rfl rfl dX12_without_23 ?_
      refine ts_iload_n (i := 3) rfl rfl dX12_without_24 ?_
      refine td_if_ge (tgt := 30) rfl dX12_without_25 ?_ ?_
      · refine ts_aload_n (i := 0) rfl rfl dX12_without_30 ?_
        refine ts_iload_n (i := 1) rfl rfl dX12_without_31 ?_
        refine tq_callV (y2 := mX12_layRound) [tv_I a1] [] 1 (st' := fun _ => []) tw_X12_layRound tx_X12_layRound tw_c12 ga_m_1 tl_X12_322 rfl rfl rfl rfl (fun _ => rfl) dX12_without_32 (S_X12_layRound l hE _ a1 D11) (fun r12 D13 => ?_)
        refine ts_iconst rfl dX12_without_35 ?_
        refine tq_istore [tv_R 1, tv_I a1, tv_I a2, tv_I r10, tv_I 0, tv_U] (Nat.le_of_ble_eq_true rfl) rfl rfl dX12_without_36 ?_
        refine ts_iconst rfl dX12_without_38 ?_
        refine tq_istore [tv_R 1, tv_I a1, tv_I a2, tv_I r10, tv_I 0, tv_I 0] (Nat.le_of_ble_eq_true rfl) rfl rfl dX12_without_39 ?_
        refine tv_weak (ls' := [tv_R 1, tv_U, tv_I a2, tv_U, tv_I 0, tv_I 0]) ⟨Or.inr rfl, Or.inl rfl, Or.inr rfl, Or.inl rfl, Or.inr rfl, Or.inr rfl, trivial⟩ ?_
        exact S_X12_without_41 hE d tf_N a2 0 0 D13
      · refine ts_iload_n (i := 3) rfl rfl dX12_without_28 ?_
        exact td_iret rfl dX12_without_29
def F_X12_worthBy (a1 : Int) (a2 : Int) (a3 : Int) (D : td_D) : Option (Int × td_D) :=
  if a3 = D 1 1 then
    if 0 ≤ tv_w ((tv_w (64 * (tv_w (a1 + 1)))) + a2) ∧ tv_w ((tv_w (64 * (tv_w (a1 + 1)))) + a2) < ((704 : Nat) : Int) then
      some (D 25 (Int.toNat (tv_w ((tv_w (64 * (tv_w (a1 + 1)))) + a2))), D)
    else none
  else
    if 0 ≤ a1 ∧ a1 < ((10 : Nat) : Int) then
      if 0 ≤ tv_w ((tv_w (64 * (tv_w (a1 + 1)))) + (tv_or a2 (tv_shl 1 a3))) ∧ tv_w ((tv_w (64 * (tv_w (a1 + 1)))) + (tv_or a2 (tv_shl 1 a3))) < ((704 : Nat) : Int) then
        some (tv_w ((D 7 (Int.toNat a1)) + (D 25 (Int.toNat (tv_w ((tv_w (64 * (tv_w (a1 + 1)))) + (tv_or a2 (tv_shl 1 a3))))))), D)
      else none
    else none
set_option maxHeartbeats 4000000 in
set_option maxRecDepth 20000 in
theorem S_X12_worthBy (l : Launch) {E : tv_E} (hE : tv_hE E) (d : Nat) (a1 : Int) (a2 : Int) (a3 : Int) (D : td_D) : td_msim l E (d + 0) mX12_worthBy g_m [tv_R 1, tv_I a1, tv_I a2, tv_I a3] D (F_X12_worthBy a1 a2 a3 D) := by
  refine td_meetL (ls := [tv_R 1, tv_I a1, tv_I a2, tv_I a3]) rfl (Nat.le_of_ble_eq_true rfl) rfl ?_
  unfold F_X12_worthBy
  refine ts_iload_n (i := 3) rfl rfl dX12_worthBy_0 ?_
  refine ts_aload_n (i := 0) rfl rfl dX12_worthBy_1 ?_
  refine td_getI tl_X12_139 rfl ga_m_1 rfl dX12_worthBy_2 ?_
  refine td_icmp_ne (tgt := 24) rfl dX12_worthBy_5 ?_ ?_
  · refine ts_aload_n (i := 0) rfl rfl dX12_worthBy_8 ?_
    refine td_getR (q := 25) tl_X12_81 rfl ga_m_1 rfl dX12_worthBy_9 ?_
    refine ts_bipush rfl dX12_worthBy_12 ?_
    refine ts_iload_n (i := 1) rfl rfl dX12_worthBy_14 ?_
    refine ts_iconst rfl dX12_worthBy_15 ?_
    refine ts_iadd dX12_worthBy_16 ?_
    refine ts_imul dX12_worthBy_17 ?_
    refine ts_iload_n (i := 2) rfl rfl dX12_worthBy_18 ?_
    refine ts_iadd dX12_worthBy_19 ?_
    refine td_guard (fun h1 => ?_)
    refine td_ialdK ga_m_25 (gn_m_25 _) h1 dX12_worthBy_20 ?_
    refine ts_goto (tgt := 48) rfl dX12_worthBy_21 ?_
    exact td_iret rfl dX12_worthBy_48
  · refine ts_aload_n (i := 0) rfl rfl dX12_worthBy_24 ?_
    refine td_getR (q := 7) tl_X12_25 rfl ga_m_1 rfl dX12_worthBy_25 ?_
    refine ts_iload_n (i := 1) rfl rfl dX12_worthBy_28 ?_
    refine td_guard (fun h2 => ?_)
    refine td_ialdK ga_m_7 (gn_m_7 _) h2 dX12_worthBy_29 ?_
    refine ts_aload_n (i := 0) rfl rfl dX12_worthBy_30 ?_
    refine td_getR (q := 25) tl_X12_81 rfl ga_m_1 rfl dX12_worthBy_31 ?_
    refine ts_bipush rfl dX12_worthBy_34 ?_
    refine ts_iload_n (i := 1) rfl rfl dX12_worthBy_36 ?_
    refine ts_iconst rfl dX12_worthBy_37 ?_
    refine ts_iadd dX12_worthBy_38 ?_
    refine ts_imul dX12_worthBy_39 ?_
    refine ts_iload_n (i := 2) rfl rfl dX12_worthBy_40 ?_
    refine ts_iconst rfl dX12_worthBy_41 ?_
    refine ts_iload_n (i := 3) rfl rfl dX12_worthBy_42 ?_
    refine ts_ishl dX12_worthBy_43 ?_
    refine ts_ior dX12_worthBy_44 ?_
    refine ts_iadd dX12_worthBy_45 ?_
    refine td_guard (fun h3 => ?_)
    refine td_ialdK ga_m_25 (gn_m_25 _) h3 dX12_worthBy_46 ?_
    refine ts_iadd dX12_worthBy_47 ?_
    exact td_iret rfl dX12_worthBy_48
def F_X12_mayTake (a1 : Int) (a2 : Int) (a3 : Int) (D : td_D) : Option (Int × td_D) :=
  if a3 = D 1 1 then
    some (1, D)
  else
    if tv_and (tv_shr a2 a3) 1 = 0 then
      if 0 ≤ a3 ∧ a3 < ((6 : Nat) : Int) then
        td_b (F_X12_mayDo a1 (D 2 (Int.toNat a3)) D) fun r2 D3 =>
        if r2 = 0 then
          some (0, D3)
        else
          some (1, D3)
      else none
    else
      some (0, D)
set_option maxHeartbeats 4000000 in
set_option maxRecDepth 20000 in
theorem S_X12_mayTake (l : Launch) {E : tv_E} (hE : tv_hE E) (d : Nat) (a1 : Int) (a2 : Int) (a3 : Int) (D : td_D) : td_msim l E (d + 1) mX12_mayTake g_m [tv_R 1, tv_I a1, tv_I a2, tv_I a3] D (F_X12_mayTake a1 a2 a3 D) := by
  refine td_meetL (ls := [tv_R 1, tv_I a1, tv_I a2, tv_I a3]) rfl (Nat.le_of_ble_eq_true rfl) rfl ?_
  unfold F_X12_mayTake
  refine ts_iload_n (i := 3) rfl rfl dX12_mayTake_0 ?_
  refine ts_aload_n (i := 0) rfl rfl dX12_mayTake_1 ?_
  refine td_getI tl_X12_139 rfl ga_m_1 rfl dX12_mayTake_2 ?_
  refine td_icmp_eq (tgt := 30) rfl dX12_mayTake_5 ?_ ?_
  · refine ts_iconst rfl dX12_mayTake_30 ?_
    refine ts_goto (tgt := 35) rfl dX12_mayTake_31 ?_
    exact td_zretK (Or.inr rfl) rfl dX12_mayTake_35
  · refine ts_iload_n (i := 2) rfl rfl dX12_mayTake_8 ?_
    refine ts_iload_n (i := 3) rfl rfl dX12_mayTake_9 ?_
    refine ts_ishr dX12_mayTake_10 ?_
    refine ts_iconst rfl dX12_mayTake_11 ?_
    refine ts_iand dX12_mayTake_12 ?_
    refine td_if_ne (tgt := 34) rfl dX12_mayTake_13 ?_ ?_
    · refine ts_aload_n (i := 0) rfl rfl dX12_mayTake_16 ?_
      refine ts_iload_n (i := 1) rfl rfl dX12_mayTake_17 ?_
      refine ts_aload_n (i := 0) rfl rfl dX12_mayTake_18 ?_
      refine td_getR (q := 2) tl_X12_7 rfl ga_m_1 rfl dX12_mayTake_19 ?_
      refine ts_iload_n (i := 3) rfl rfl dX12_mayTake_22 ?_
      refine td_guard (fun h1 => ?_)
      refine td_ialdK ga_m_2 (gn_m_2 _) h1 dX12_mayTake_23 ?_
      refine tq_callV (y2 := mX12_mayDo) [tv_I a1, tv_I (D 2 (Int.toNat a3))] [] 1 (st' := fun r2 => [tv_I r2]) tw_X12_mayDo tx_X12_mayDo tw_c12 ga_m_1 tl_X12_313 rfl rfl rfl rfl (fun _ => rfl) dX12_mayTake_24 (S_X12_mayDo l hE _ a1 (D 2 (Int.toNat a3)) D) (fun r2 D3 => ?_)
      refine td_if_eq (tgt := 34) rfl dX12_mayTake_27 ?_ ?_
      · refine ts_iconst rfl dX12_mayTake_34 ?_
        exact td_zretK (Or.inl rfl) rfl dX12_mayTake_35
      · refine ts_iconst rfl dX12_mayTake_30 ?_
        refine ts_goto (tgt := 35) rfl dX12_mayTake_31 ?_
        exact td_zretK (Or.inr rfl) rfl dX12_mayTake_35
    · refine ts_iconst rfl dX12_mayTake_34 ?_
      exact td_zretK (Or.inl rfl) rfl dX12_mayTake_35
def F_X12_findWho_22 (k5 : Int → td_D → Option (Int × td_D)) (k11 : Int → Int → td_D → Option (Int × td_D)) : Nat → Int → Int → Int → Int → td_D → Option (Int × td_D)
  | 0, _, _, _, _, _ => none
  | n + 1, v1, v2, v3, v4, D =>
    if D 1 1 < v4 then
      if 0 ≤ tv_w ((tv_w (64 * v1)) + v2) ∧ tv_w ((tv_w (64 * v1)) + v2) < ((704 : Nat) : Int) then
        td_l (td_upd D 25 (Int.toNat (tv_w ((tv_w (64 * v1)) + v2))) v3) fun D2 =>
        k11 v1 (tv_w (v2 + 1)) D2
      else none
    else
      if D 1 6 ≤ v1 then
        if 0 ≤ tv_w ((tv_w (64 * v1)) + v2) ∧ tv_w ((tv_w (64 * v1)) + v2) < ((704 : Nat) : Int) then
          td_l (td_upd D 25 (Int.toNat (tv_w ((tv_w (64 * v1)) + v2))) v3) fun D4 =>
          k11 v1 (tv_w (v2 + 1)) D4
        else none
      else
        td_b (F_X12_mayTake v1 v2 v4 D) fun r5 D6 =>
        if r5 = 0 then
          F_X12_findWho_22 k5 k11 n v1 v2 v3 (tv_w (v4 + 1)) D6
        else
          td_b (F_X12_worthBy v1 v2 v4 D6) fun r7 D8 =>
          if r7 ≤ v3 then
            F_X12_findWho_22 k5 k11 n v1 v2 v3 (tv_w (v4 + 1)) D8
          else
            td_b (F_X12_worthBy v1 v2 v4 D8) fun r9 D10 =>
            F_X12_findWho_22 k5 k11 n v1 v2 r9 (tv_w (v4 + 1)) D10
set_option maxHeartbeats 4000000 in
set_option maxRecDepth 20000 in
theorem S_X12_findWho_22 {l : Launch} {E : tv_E} (hE : tv_hE E) (d : Nat) (k5 : Int → td_D → Option (Int × td_D)) (k11 : Int → Int → td_D → Option (Int × td_D)) (hk5 : ∀ (v1 : Int) (D : td_D), td_sim l E (d + 2) mX12_findWho g_m 5 [tv_R 1, tv_I v1, tv_U, tv_U, tv_U] [] D (k5 v1 D)) (hk11 : ∀ (v1 : Int) (v2 : Int) (D : td_D), td_sim l E (d + 2) mX12_findWho g_m 11 [tv_R 1, tv_I v1, tv_I v2, tv_U, tv_U] [] D (k11 v1 v2 D)) : ∀ (n : Nat) (v1 : Int) (v2 : Int) (v3 : Int) (v4 : Int) (D : td_D), td_sim l E (d + 2) mX12_findWho g_m 22 [tv_R 1, tv_I v1, tv_I v2, tv_I v3, tv_I v4] [] D (F_X12_findWho_22 k5 k11 n v1 v2 v3 v4 D) := by
  intro n
  induction n with
  | zero => intros; exact tv_none
  | succ n ih =>
    intro v1 v2 v3 v4 D
    show td_sim _ _ _ _ _ _ _ _ _ (F_X12_findWho_22 k5 k11 (n + 1) v1 v2 v3 v4 D)
    unfold F_X12_findWho_22
    refine ts_iload rfl dX12_findWho_22 ?_
    refine ts_aload_n (i := 0) rfl rfl dX12_findWho_24 ?_
    refine td_getI tl_X12_139 rfl ga_m_1 rfl dX12_findWho_25 ?_
    refine td_icmp_gt (tgt := 77) rfl dX12_findWho_28 ?_ ?_
    · refine ts_aload_n (i := 0) rfl rfl dX12_findWho_77 ?_
      refine td_getR (q := 25) tl_X12_81 rfl ga_m_1 rfl dX12_findWho_78 ?_
      refine ts_bipush rfl dX12_findWho_81 ?_
      refine ts_iload_n (i := 1) rfl rfl dX12_findWho_83 ?_
      refine ts_imul dX12_findWho_84 ?_
      refine ts_iload_n (i := 2) rfl rfl dX12_findWho_85 ?_
      refine ts_iadd dX12_findWho_86 ?_
      refine ts_iload_n (i := 3) rfl rfl dX12_findWho_87 ?_
      refine td_guard (fun h1 => ?_)
      refine td_iastK ga_m_25 (gn_m_25 _) h1 dX12_findWho_88 ?_
      refine td_let (fun D2 => ?_)
      refine tq_iinc [tv_R 1, tv_I v1, tv_I (tv_w (v2 + 1)), tv_I v3, tv_I v4] rfl rfl rfl dX12_findWho_89 ?_
      refine ts_goto (tgt := 11) rfl dX12_findWho_92 ?_
      refine tv_weak (ls' := [tv_R 1, tv_I v1, tv_I (tv_w (v2 + 1)), tv_U, tv_U]) ⟨Or.inr rfl, Or.inr rfl, Or.inr rfl, Or.inl rfl, Or.inl rfl, trivial⟩ ?_
      exact hk11 v1 (tv_w (v2 + 1)) D2
    · refine ts_iload_n (i := 1) rfl rfl dX12_findWho_31 ?_
      refine ts_aload_n (i := 0) rfl rfl dX12_findWho_32 ?_
      refine td_getI tl_X12_149 rfl ga_m_1 rfl dX12_findWho_33 ?_
      refine td_icmp_ge (tgt := 77) rfl dX12_findWho_36 ?_ ?_
      · refine ts_aload_n (i := 0) rfl rfl dX12_findWho_77 ?_
        refine td_getR (q := 25) tl_X12_81 rfl ga_m_1 rfl dX12_findWho_78 ?_
        refine ts_bipush rfl dX12_findWho_81 ?_
        refine ts_iload_n (i := 1) rfl rfl dX12_findWho_83 ?_
        refine ts_imul dX12_findWho_84 ?_
        refine ts_iload_n (i := 2) rfl rfl dX12_findWho_85 ?_
        refine ts_iadd dX12_findWho_86 ?_
        refine ts_iload_n (i := 3) rfl rfl dX12_findWho_87 ?_
        refine td_guard (fun h3 => ?_)
        refine td_iastK ga_m_25 (gn_m_25 _) h3 dX12_findWho_88 ?_
        refine td_let (fun D4 => ?_)
        refine tq_iinc [tv_R 1, tv_I v1, tv_I (tv_w (v2 + 1)), tv_I v3, tv_I v4] rfl rfl rfl dX12_findWho_89 ?_
        refine ts_goto (tgt := 11) rfl dX12_findWho_92 ?_
        refine tv_weak (ls' := [tv_R 1, tv_I v1, tv_I (tv_w (v2 + 1)), tv_U, tv_U]) ⟨Or.inr rfl, Or.inr rfl, Or.inr rfl, Or.inl rfl, Or.inl rfl, trivial⟩ ?_
        exact hk11 v1 (tv_w (v2 + 1)) D4
      · refine ts_aload_n (i := 0) rfl rfl dX12_findWho_39 ?_
        refine ts_iload_n (i := 1) rfl rfl dX12_findWho_40 ?_
        refine ts_iload_n (i := 2) rfl rfl dX12_findWho_41 ?_
        refine ts_iload rfl dX12_findWho_42 ?_
        refine tq_callV (y2 := mX12_mayTake) [tv_I v1, tv_I v2, tv_I v4] [] 1 (st' := fun r5 => [tv_I r5]) tw_X12_mayTake tx_X12_mayTake tw_c12 ga_m_1 tl_X12_329 rfl rfl rfl rfl (fun _ => rfl) dX12_findWho_44 (S_X12_mayTake l hE _ v1 v2 v4 D) (fun r5 D6 => ?_)
        refine td_if_eq (tgt := 71) rfl dX12_findWho_47 ?_ ?_
        · refine tq_iinc [tv_R 1, tv_I v1, tv_I v2, tv_I v3, tv_I (tv_w (v4 + 1))] rfl rfl rfl dX12_findWho_71 ?_
          refine ts_goto (tgt := 22) rfl dX12_findWho_74 ?_
          exact ih v1 v2 v3 (tv_w (v4 + 1)) D6
        · refine ts_aload_n (i := 0) rfl rfl dX12_findWho_50 ?_
          refine ts_iload_n (i := 1) rfl rfl dX12_findWho_51 ?_
          refine ts_iload_n (i := 2) rfl rfl dX12_findWho_52 ?_
          refine ts_iload rfl dX12_findWho_53 ?_
          refine tq_callV (y2 := mX12_worthBy) [tv_I v1, tv_I v2, tv_I v4] [] 1 (st' := fun r7 => [tv_I r7]) tw_X12_worthBy tx_X12_worthBy tw_c12 ga_m_1 tl_X12_332 rfl rfl rfl rfl (fun _ => rfl) dX12_findWho_55 (S_X12_worthBy l hE _ v1 v2 v4 D6) (fun r7 D8 => ?_)
          refine ts_iload_n (i := 3) rfl rfl dX12_findWho_58 ?_
          refine td_icmp_le (tgt := 71) rfl dX12_findWho_59 ?_ ?_
          · refine tq_iinc [tv_R 1, tv_I v1, tv_I v2, tv_I v3, tv_I (tv_w (v4 + 1))] rfl rfl rfl dX12_findWho_71 ?_
            refine ts_goto (tgt := 22) rfl dX12_findWho_74 ?_
            exact ih v1 v2 v3 (tv_w (v4 + 1)) D8
          · refine ts_aload_n (i := 0) rfl rfl dX12_findWho_62 ?_
            refine ts_iload_n (i := 1) rfl rfl dX12_findWho_63 ?_
            refine ts_iload_n (i := 2) rfl rfl dX12_findWho_64 ?_
            refine ts_iload rfl dX12_findWho_65 ?_
            refine tq_callV (y2 := mX12_worthBy) [tv_I v1, tv_I v2, tv_I v4] [] 1 (st' := fun r9 => [tv_I r9]) tw_X12_worthBy tx_X12_worthBy tw_c12 ga_m_1 tl_X12_332 rfl rfl rfl rfl (fun _ => rfl) dX12_findWho_67 (S_X12_worthBy l hE _ v1 v2 v4 D8) (fun r9 D10 => ?_)
            refine tq_istore_n [tv_R 1, tv_I v1, tv_I v2, tv_I r9, tv_I v4] rfl (Nat.le_of_ble_eq_true rfl) rfl rfl dX12_findWho_70 ?_
            refine tq_iinc [tv_R 1, tv_I v1, tv_I v2, tv_I r9, tv_I (tv_w (v4 + 1))] rfl rfl rfl dX12_findWho_71 ?_
            refine ts_goto (tgt := 22) rfl dX12_findWho_74 ?_
            exact ih v1 v2 r9 (tv_w (v4 + 1)) D10
def F_X12_findWho_11 (k5 : Int → td_D → Option (Int × td_D)) : Nat → Int → Int → td_D → Option (Int × td_D)
  | 0, _, _, _ => none
  | n + 1, v1, v2, D =>
    if 64 ≤ v2 then
      k5 (tv_w (v1 + (-1))) D
    else
      F_X12_findWho_22 k5 (fun v1 v2 D => F_X12_findWho_11 k5 n v1 v2 D) tf_N v1 v2 0 0 D
set_option maxHeartbeats 4000000 in
set_option maxRecDepth 20000 in
theorem S_X12_findWho_11 {l : Launch} {E : tv_E} (hE : tv_hE E) (d : Nat) (k5 : Int → td_D → Option (Int × td_D)) (hk5 : ∀ (v1 : Int) (D : td_D), td_sim l E (d + 2) mX12_findWho g_m 5 [tv_R 1, tv_I v1, tv_U, tv_U, tv_U] [] D (k5 v1 D)) : ∀ (n : Nat) (v1 : Int) (v2 : Int) (D : td_D), td_sim l E (d + 2) mX12_findWho g_m 11 [tv_R 1, tv_I v1, tv_I v2, tv_U, tv_U] [] D (F_X12_findWho_11 k5 n v1 v2 D) := by
  intro n
  induction n with
  | zero => intros; exact tv_none
  | succ n ih =>
    intro v1 v2 D
    show td_sim _ _ _ _ _ _ _ _ _ (F_X12_findWho_11 k5 (n + 1) v1 v2 D)
    unfold F_X12_findWho_11
    refine ts_iload_n (i := 2) rfl rfl dX12_findWho_11 ?_
    refine ts_bipush rfl dX12_findWho_12 ?_
    refine td_icmp_ge (tgt := 95) rfl dX12_findWho_14 ?_ ?_
    · refine tq_iinc [tv_R 1, tv_I (tv_w (v1 + (-1))), tv_I v2, tv_U, tv_U] rfl rfl rfl dX12_findWho_95 ?_
      refine ts_goto (tgt := 5) rfl dX12_findWho_98 ?_
      refine tv_weak (ls' := [tv_R 1, tv_I (tv_w (v1 + (-1))), tv_U, tv_U, tv_U]) ⟨Or.inr rfl, Or.inr rfl, Or.inl rfl, Or.inl rfl, Or.inl rfl, trivial⟩ ?_
      exact hk5 (tv_w (v1 + (-1))) D
    · refine ts_iconst rfl dX12_findWho_17 ?_
      refine tq_istore_n [tv_R 1, tv_I v1, tv_I v2, tv_I 0, tv_U] rfl (Nat.le_of_ble_eq_true rfl) rfl rfl dX12_findWho_18 ?_
      refine ts_iconst rfl dX12_findWho_19 ?_
      refine tq_istore [tv_R 1, tv_I v1, tv_I v2, tv_I 0, tv_I 0] (Nat.le_of_ble_eq_true rfl) rfl rfl dX12_findWho_20 ?_
      exact S_X12_findWho_22 hE d k5 (fun v1 v2 D => F_X12_findWho_11 k5 n v1 v2 D) (hk5) (fun v1 v2 D => ih v1 v2 D) tf_N v1 v2 0 0 D
def F_X12_findWho_5 : Nat → Int → td_D → Option (Int × td_D)
  | 0, _, _ => none
  | n + 1, v1, D =>
    if v1 < 0 then
      some (0, D)
    else
      F_X12_findWho_11 (fun v1 D => F_X12_findWho_5 n v1 D) tf_N v1 0 D
set_option maxHeartbeats 4000000 in
set_option maxRecDepth 20000 in
theorem S_X12_findWho_5 {l : Launch} {E : tv_E} (hE : tv_hE E) (d : Nat) : ∀ (n : Nat) (v1 : Int) (D : td_D), td_sim l E (d + 2) mX12_findWho g_m 5 [tv_R 1, tv_I v1, tv_U, tv_U, tv_U] [] D (F_X12_findWho_5 n v1 D) := by
  intro n
  induction n with
  | zero => intros; exact tv_none
  | succ n ih =>
    intro v1 D
    show td_sim _ _ _ _ _ _ _ _ _ (F_X12_findWho_5 (n + 1) v1 D)
    unfold F_X12_findWho_5
    refine ts_iload_n (i := 1) rfl rfl dX12_findWho_5 ?_
    refine td_if_lt (tgt := 101) rfl dX12_findWho_6 ?_ ?_
    · exact td_vret rfl dX12_findWho_101
    · refine ts_iconst rfl dX12_findWho_9 ?_
      refine tq_istore_n [tv_R 1, tv_I v1, tv_I 0, tv_U, tv_U] rfl (Nat.le_of_ble_eq_true rfl) rfl rfl dX12_findWho_10 ?_
      exact S_X12_findWho_11 hE d (fun v1 D => F_X12_findWho_5 n v1 D) (fun v1 D => ih v1 D) tf_N v1 0 D
def F_X12_findWho (D : td_D) : Option (Int × td_D) :=
  F_X12_findWho_5 tf_N (D 1 6) D
set_option maxHeartbeats 4000000 in
set_option maxRecDepth 20000 in
theorem S_X12_findWho (l : Launch) {E : tv_E} (hE : tv_hE E) (d : Nat) (D : td_D) : td_msim l E (d + 2) mX12_findWho g_m [tv_R 1] D (F_X12_findWho D) := by
  refine td_meetL (ls := [tv_R 1, tv_U, tv_U, tv_U, tv_U]) rfl (Nat.le_of_ble_eq_true rfl) rfl ?_
  unfold F_X12_findWho
  refine ts_aload_n (i := 0) rfl rfl dX12_findWho_0 ?_
  refine td_getI tl_X12_149 rfl ga_m_1 rfl dX12_findWho_1 ?_
  refine tq_istore_n [tv_R 1, tv_I (D 1 6), tv_U, tv_U, tv_U] rfl (Nat.le_of_ble_eq_true rfl) rfl rfl dX12_findWho_4 ?_
  exact S_X12_findWho_5 hE d tf_N (D 1 6) D
def F_X12_who_43 (k35 : Int → Int → Int → td_D → Option (Int × td_D)) : Nat → Int → Int → Int → Int → td_D → Option (Int × td_D)
  | 0, _, _, _, _, _ => none
  | n + 1, v1, v2, v3, v4, D =>
    td_b (F_X12_mayTake v3 v2 v4 D) fun r1 D2 =>
    if r1 = 0 then
      F_X12_who_43 k35 n v1 v2 v3 (tv_w (v4 + 1)) D2
    else
      td_b (F_X12_worthBy v3 v2 v4 D2) fun r3 D4 =>
      if 0 ≤ tv_w ((tv_w (64 * v3)) + v2) ∧ tv_w ((tv_w (64 * v3)) + v2) < ((704 : Nat) : Int) then
        if r3 = D4 25 (Int.toNat (tv_w ((tv_w (64 * v3)) + v2))) then
          if v3 = v1 then
            if v4 = D4 1 1 then
              some ((-2), D4)
            else
              some (v4, D4)
          else
            if D4 1 1 ≤ v4 then
              k35 v1 v2 (tv_w (v3 + 1)) D4
            else
              k35 v1 (tv_or v2 (tv_shl 1 v4)) (tv_w (v3 + 1)) D4
        else
          F_X12_who_43 k35 n v1 v2 v3 (tv_w (v4 + 1)) D4
      else none
set_option maxHeartbeats 4000000 in
set_option maxRecDepth 20000 in
theorem S_X12_who_43 {l : Launch} {E : tv_E} (hE : tv_hE E) (d : Nat) (k35 : Int → Int → Int → td_D → Option (Int × td_D)) (hk35 : ∀ (v1 : Int) (v2 : Int) (v3 : Int) (D : td_D), td_sim l E (d + 3) mX12_who g_m 35 [tv_R 1, tv_I v1, tv_I v2, tv_I v3, tv_U] [] D (k35 v1 v2 v3 D)) : ∀ (n : Nat) (v1 : Int) (v2 : Int) (v3 : Int) (v4 : Int) (D : td_D), td_sim l E (d + 3) mX12_who g_m 43 [tv_R 1, tv_I v1, tv_I v2, tv_I v3, tv_I v4] [] D (F_X12_who_43 k35 n v1 v2 v3 v4 D) := by
  intro n
  induction n with
  | zero => intros; exact tv_none
  | succ n ih =>
    intro v1 v2 v3 v4 D
    show td_sim _ _ _ _ _ _ _ _ _ (F_X12_who_43 k35 (n + 1) v1 v2 v3 v4 D)
    unfold F_X12_who_43
    refine ts_aload_n (i := 0) rfl rfl dX12_who_43 ?_
    refine ts_iload_n (i := 3) rfl rfl dX12_who_44 ?_
    refine ts_iload_n (i := 2) rfl rfl dX12_who_45 ?_
    refine ts_iload rfl dX12_who_46 ?_
    refine tq_callV (y2 := mX12_mayTake) [tv_I v3, tv_I v2, tv_I v4] [] 1 (st' := fun r1 => [tv_I r1]) tw_X12_mayTake tx_X12_mayTake tw_c12 ga_m_1 tl_X12_329 rfl rfl rfl rfl (fun _ => rfl) dX12_who_48 (S_X12_mayTake l hE _ v3 v2 v4 D) (fun r1 D2 => ?_)
    refine td_if_eq (tgt := 76) rfl dX12_who_51 ?_ ?_
    · refine tq_iinc [tv_R 1, tv_I v1, tv_I v2, tv_I v3, tv_I (tv_w (v4 + 1))] rfl rfl rfl dX12_who_76 ?_
      refine ts_goto (tgt := 43) rfl dX12_who_79 ?_
      exact ih v1 v2 v3 (tv_w (v4 + 1)) D2
    · refine ts_aload_n (i := 0) rfl rfl dX12_who_54 ?_
      refine ts_iload_n (i := 3) rfl rfl dX12_who_55 ?_
      refine ts_iload_n (i := 2) rfl rfl dX12_who_56 ?_
      refine ts_iload rfl dX12_who_57 ?_
      refine tq_callV (y2 := mX12_worthBy) [tv_I v3, tv_I v2, tv_I v4] [] 1 (st' := fun r3 => [tv_I r3]) tw_X12_worthBy tx_X12_worthBy tw_c12 ga_m_1 tl_X12_332 rfl rfl rfl rfl (fun _ => rfl) dX12_who_59 (S_X12_worthBy l hE _ v3 v2 v4 D2) (fun r3 D4 => ?_)
      refine ts_aload_n (i := 0) rfl rfl dX12_who_62 ?_
      refine td_getR (q := 25) tl_X12_81 rfl ga_m_1 rfl dX12_who_63 ?_
      refine ts_bipush rfl dX12_who_66 ?_
      refine ts_iload_n (i := 3) rfl rfl dX12_who_68 ?_
      refine ts_imul dX12_who_69 ?_
      refine ts_iload_n (i := 2) rfl rfl dX12_who_70 ?_
      refine ts_iadd dX12_who_71 ?_
      refine td_guard (fun h5 => ?_)
      refine td_ialdK ga_m_25 (gn_m_25 _) h5 dX12_who_72 ?_
      refine td_icmp_eq (tgt := 82) rfl dX12_who_73 ?_ ?_
      · refine ts_iload_n (i := 3) rfl rfl dX12_who_82 ?_
        refine ts_iload_n (i := 1) rfl rfl dX12_who_83 ?_
        refine td_icmp_ne (tgt := 104) rfl dX12_who_84 ?_ ?_
        · refine ts_iload rfl dX12_who_87 ?_
          refine ts_aload_n (i := 0) rfl rfl dX12_who_89 ?_
          refine td_getI tl_X12_139 rfl ga_m_1 rfl dX12_who_90 ?_
          refine td_icmp_ne (tgt := 101) rfl dX12_who_93 ?_ ?_
          · refine ts_bipush rfl dX12_who_96 ?_
            refine ts_goto (tgt := 103) rfl dX12_who_98 ?_
            exact td_iret rfl dX12_who_103
          · refine ts_iload rfl dX12_who_101 ?_
            exact td_iret rfl dX12_who_103
        · refine ts_iload rfl dX12_who_104 ?_
          refine ts_aload_n (i := 0) rfl rfl dX12_who_106 ?_
          refine td_getI tl_X12_139 rfl ga_m_1 rfl dX12_who_107 ?_
          refine td_icmp_ge (tgt := 120) rfl dX12_who_110 ?_ ?_
          · refine tq_iinc [tv_R 1, tv_I v1, tv_I v2, tv_I (tv_w (v3 + 1)), tv_I v4] rfl rfl rfl dX12_who_120 ?_
            refine ts_goto (tgt := 35) rfl dX12_who_123 ?_
            refine tv_weak (ls' := [tv_R 1, tv_I v1, tv_I v2, tv_I (tv_w (v3 + 1)), tv_U]) ⟨Or.inr rfl, Or.inr rfl, Or.inr rfl, Or.inr rfl, Or.inl rfl, trivial⟩ ?_
            exact hk35 v1 v2 (tv_w (v3 + 1)) D4
          · refine ts_iload_n (i := 2) rfl rfl dX12_who_113 ?_
            refine ts_iconst rfl dX12_who_114 ?_
            refine ts_iload rfl dX12_who_115 ?_
            refine ts_ishl dX12_who_117 ?_
            refine ts_ior dX12_who_118 ?_
            refine tq_istore_n [tv_R 1, tv_I v1, tv_I (tv_or v2 (tv_shl 1 v4)), tv_I v3, tv_I v4] rfl (Nat.le_of_ble_eq_true rfl) rfl rfl dX12_who_119 ?_
            refine tq_iinc [tv_R 1, tv_I v1, tv_I (tv_or v2 (tv_shl 1 v4)), tv_I (tv_w (v3 + 1)), tv_I v4] rfl rfl rfl dX12_who_120 ?_
            refine ts_goto (tgt := 35) rfl dX12_who_123 ?_
            refine tv_weak (ls' := [tv_R 1, tv_I v1, tv_I (tv_or v2 (tv_shl 1 v4)), tv_I (tv_w (v3 + 1)), tv_U]) ⟨Or.inr rfl, Or.inr rfl, Or.inr rfl, Or.inr rfl, Or.inl rfl, trivial⟩ ?_
            exact hk35 v1 (tv_or v2 (tv_shl 1 v4)) (tv_w (v3 + 1)) D4
      · refine tq_iinc [tv_R 1, tv_I v1, tv_I v2, tv_I v3, tv_I (tv_w (v4 + 1))] rfl rfl rfl dX12_who_76 ?_
        refine ts_goto (tgt := 43) rfl dX12_who_79 ?_
        exact ih v1 v2 v3 (tv_w (v4 + 1)) D4
def F_X12_who_35 : Nat → Int → Int → Int → td_D → Option (Int × td_D)
  | 0, _, _, _, _ => none
  | n + 1, v1, v2, v3, D =>
    if v1 < v3 then
      some ((-2), D)
    else
      F_X12_who_43 (fun v1 v2 v3 D => F_X12_who_35 n v1 v2 v3 D) tf_N v1 v2 v3 0 D
set_option maxHeartbeats 4000000 in
set_option maxRecDepth 20000 in
theorem S_X12_who_35 {l : Launch} {E : tv_E} (hE : tv_hE E) (d : Nat) : ∀ (n : Nat) (v1 : Int) (v2 : Int) (v3 : Int) (D : td_D), td_sim l E (d + 3) mX12_who g_m 35 [tv_R 1, tv_I v1, tv_I v2, tv_I v3, tv_U] [] D (F_X12_who_35 n v1 v2 v3 D) := by
  intro n
  induction n with
  | zero => intros; exact tv_none
  | succ n ih =>
    intro v1 v2 v3 D
    show td_sim _ _ _ _ _ _ _ _ _ (F_X12_who_35 (n + 1) v1 v2 v3 D)
    unfold F_X12_who_35
    refine ts_iload_n (i := 3) rfl rfl dX12_who_35 ?_
    refine ts_iload_n (i := 1) rfl rfl dX12_who_36 ?_
    refine td_icmp_gt (tgt := 126) rfl dX12_who_37 ?_ ?_
    · refine ts_bipush rfl dX12_who_126 ?_
      exact td_iret rfl dX12_who_128
    · refine ts_iconst rfl dX12_who_40 ?_
      refine tq_istore [tv_R 1, tv_I v1, tv_I v2, tv_I v3, tv_I 0] (Nat.le_of_ble_eq_true rfl) rfl rfl dX12_who_41 ?_
      exact S_X12_who_43 hE d (fun v1 v2 v3 D => F_X12_who_35 n v1 v2 v3 D) (fun v1 v2 v3 D => ih v1 v2 v3 D) tf_N v1 v2 v3 0 D
def F_X12_who (a1 : Int) (D : td_D) : Option (Int × td_D) :=
  td_b (F_X12_in a1 ((-1)) (tv_w ((D 1 6) - 1)) D) fun r6 D7 =>
  if r6 = 0 then
    some ((-1), D7)
  else
    td_b (F_X12_findWho D7) fun _ D9 =>
    if 0 ≤ a1 then
      F_X12_who_35 tf_N a1 0 0 D9
    else
      some (D9 25 (Int.toNat 0), D9)
set_option maxHeartbeats 4000000 in
set_option maxRecDepth 20000 in
theorem S_X12_who (l : Launch) {E : tv_E} (hE : tv_hE E) (d : Nat) (a1 : Int) (D : td_D) : td_msim l E (d + 3) mX12_who g_m [tv_R 1, tv_I a1] D (F_X12_who a1 D) := by
  refine td_meetL (ls := [tv_R 1, tv_I a1, tv_U, tv_U, tv_U]) rfl (Nat.le_of_ble_eq_true rfl) rfl ?_
  unfold F_X12_who
  refine ts_iload_n (i := 1) rfl rfl dX12_who_0 ?_
  refine ts_iconst rfl dX12_who_1 ?_
  refine ts_aload_n (i := 0) rfl rfl dX12_who_2 ?_
  refine td_getI tl_X12_149 rfl ga_m_1 rfl dX12_who_3 ?_
  refine ts_iconst rfl dX12_who_6 ?_
  refine ts_isub dX12_who_7 ?_
  refine tq_callS (y2 := mX12_in) [tv_I a1, tv_I ((-1)), tv_I (tv_w ((D 1 6) - 1))] [] (st' := fun r6 => [tv_I r6]) tw_X12_in tx_X12_in tl_X12_142 rfl rfl rfl rfl (fun _ => rfl) dX12_who_8 (S_X12_in l hE _ a1 ((-1)) (tv_w ((D 1 6) - 1)) D) (fun r6 D7 => ?_)
  refine td_if_ne (tgt := 16) rfl dX12_who_11 ?_ ?_
  · refine ts_iconst rfl dX12_who_14 ?_
    exact td_iret rfl dX12_who_15
  · refine ts_aload_n (i := 0) rfl rfl dX12_who_16 ?_
    refine tq_callV (y2 := mX12_findWho) [] [] 1 (st' := fun _ => []) tw_X12_findWho tx_X12_findWho tw_c12 ga_m_1 tl_X12_335 rfl rfl rfl rfl (fun _ => rfl) dX12_who_17 (S_X12_findWho l hE _ D7) (fun r8 D9 => ?_)
    refine ts_iload_n (i := 1) rfl rfl dX12_who_20 ?_
    refine td_if_ge (tgt := 31) rfl dX12_who_21 ?_ ?_
    · refine ts_iconst rfl dX12_who_31 ?_
      refine tq_istore_n [tv_R 1, tv_I a1, tv_I 0, tv_U, tv_U] rfl (Nat.le_of_ble_eq_true rfl) rfl rfl dX12_who_32 ?_
      refine ts_iconst rfl dX12_who_33 ?_
      refine tq_istore_n [tv_R 1, tv_I a1, tv_I 0, tv_I 0, tv_U] rfl (Nat.le_of_ble_eq_true rfl) rfl rfl dX12_who_34 ?_
      exact S_X12_who_35 hE d tf_N a1 0 0 D9
    · refine ts_aload_n (i := 0) rfl rfl dX12_who_24 ?_
      refine td_getR (q := 25) tl_X12_81 rfl ga_m_1 rfl dX12_who_25 ?_
      refine ts_iconst rfl dX12_who_28 ?_
      refine td_ialdK ga_m_25 (gn_m_25 _) ⟨by decide, by decide⟩ dX12_who_29 ?_
      exact td_iret rfl dX12_who_30
