def F_X12_in (a0 : Int) (a1 : Int) (a2 : Int) (D : td_D) : Option (Int × td_D) :=
  if a0 < a1 then
    some (0, D)
  else
    if a2 < a0 then
      some (0, D)
    else
      some (1, D)
set_option maxHeartbeats 4000000 in
set_option maxRecDepth 20000 in
theorem S_X12_in (l : Launch) {E : tv_E} (hE : tv_hE E) (d : Nat) (a0 : Int) (a1 : Int) (a2 : Int) (D : td_D) : td_msim l E (d + 0) mX12_in g_m [tv_I a0, tv_I a1, tv_I a2] D (F_X12_in a0 a1 a2 D) := by
  refine td_meetL (ls := [tv_I a0, tv_I a1, tv_I a2]) rfl (Nat.le_of_ble_eq_true rfl) rfl ?_
  unfold F_X12_in
  refine ts_iload_n (i := 0) rfl rfl dX12_in_0 ?_
  refine ts_iload_n (i := 1) rfl rfl dX12_in_1 ?_
  refine td_icmp_lt (tgt := 14) rfl dX12_in_2 ?_ ?_
  · refine ts_iconst rfl dX12_in_14 ?_
    exact td_zretK (Or.inl rfl) rfl dX12_in_15
  · refine ts_iload_n (i := 0) rfl rfl dX12_in_5 ?_
    refine ts_iload_n (i := 2) rfl rfl dX12_in_6 ?_
    refine td_icmp_gt (tgt := 14) rfl dX12_in_7 ?_ ?_
    · refine ts_iconst rfl dX12_in_14 ?_
      exact td_zretK (Or.inl rfl) rfl dX12_in_15
    · refine ts_iconst rfl dX12_in_10 ?_
      refine ts_goto (tgt := 15) rfl dX12_in_11 ?_
      exact td_zretK (Or.inr rfl) rfl dX12_in_15
def F_X12_apart (a0 : Int) (a1 : Int) (D : td_D) : Option (Int × td_D) :=
  if a1 ≤ a0 then
    some (tv_w (a0 - a1), D)
  else
    some (tv_w (a1 - a0), D)
set_option maxHeartbeats 4000000 in
set_option maxRecDepth 20000 in
theorem S_X12_apart (l : Launch) {E : tv_E} (hE : tv_hE E) (d : Nat) (a0 : Int) (a1 : Int) (D : td_D) : td_msim l E (d + 0) mX12_apart g_m [tv_I a0, tv_I a1] D (F_X12_apart a0 a1 D) := by
  refine td_meetL (ls := [tv_I a0, tv_I a1]) rfl (Nat.le_of_ble_eq_true rfl) rfl ?_
  unfold F_X12_apart
  refine ts_iload_n (i := 0) rfl rfl dX12_apart_0 ?_
  refine ts_iload_n (i := 1) rfl rfl dX12_apart_1 ?_
  refine td_icmp_ge (tgt := 11) rfl dX12_apart_2 ?_ ?_
  · refine ts_iload_n (i := 0) rfl rfl dX12_apart_11 ?_
    refine ts_iload_n (i := 1) rfl rfl dX12_apart_12 ?_
    refine ts_isub dX12_apart_13 ?_
    exact td_iret rfl dX12_apart_14
  · refine ts_iload_n (i := 1) rfl rfl dX12_apart_5 ?_
    refine ts_iload_n (i := 0) rfl rfl dX12_apart_6 ?_
    refine ts_isub dX12_apart_7 ?_
    refine ts_goto (tgt := 14) rfl dX12_apart_8 ?_
    exact td_iret rfl dX12_apart_14
def F_X12_far (a0 : Int) (a1 : Int) (D : td_D) : Option (Int × td_D) :=
  td_b (F_X12_apart (tv_rem a0 10) (tv_rem a1 10) D) fun r1 D2 =>
  td_b (F_X12_apart (tv_div a0 10) (tv_div a1 10) D2) fun r3 D4 =>
  some (tv_w (r1 + r3), D4)
set_option maxHeartbeats 4000000 in
set_option maxRecDepth 20000 in
theorem S_X12_far (l : Launch) {E : tv_E} (hE : tv_hE E) (d : Nat) (a0 : Int) (a1 : Int) (D : td_D) : td_msim l E (d + 1) mX12_far g_m [tv_I a0, tv_I a1] D (F_X12_far a0 a1 D) := by
  refine td_meetL (ls := [tv_I a0, tv_I a1]) rfl (Nat.le_of_ble_eq_true rfl) rfl ?_
  unfold F_X12_far
  refine ts_iload_n (i := 0) rfl rfl dX12_far_0 ?_
  refine ts_bipush rfl dX12_far_1 ?_
  refine td_iremK (by decide) dX12_far_3 ?_
  refine ts_iload_n (i := 1) rfl rfl dX12_far_4 ?_
  refine ts_bipush rfl dX12_far_5 ?_
  refine td_iremK (by decide) dX12_far_7 ?_
  refine tq_callS (y2 := mX12_apart) [tv_I (tv_rem a0 10), tv_I (tv_rem a1 10)] [] (st' := fun r1 => [tv_I r1]) tw_X12_apart tx_X12_apart tl_X12_135 rfl rfl rfl rfl (fun _ => rfl) dX12_far_8 (S_X12_apart l hE _ (tv_rem a0 10) (tv_rem a1 10) D) (fun r1 D2 => ?_)
  refine ts_iload_n (i := 0) rfl rfl dX12_far_11 ?_
  refine ts_bipush rfl dX12_far_12 ?_
  refine td_idivK (by decide) dX12_far_14 ?_
  refine ts_iload_n (i := 1) rfl rfl dX12_far_15 ?_
  refine ts_bipush rfl dX12_far_16 ?_
  refine td_idivK (by decide) dX12_far_18 ?_
  refine tq_callS (y2 := mX12_apart) [tv_I (tv_div a0 10), tv_I (tv_div a1 10)] [tv_I r1] (st' := fun r3 => [tv_I r3, tv_I r1]) tw_X12_apart tx_X12_apart tl_X12_135 rfl rfl rfl rfl (fun _ => rfl) dX12_far_19 (S_X12_apart l hE _ (tv_div a0 10) (tv_div a1 10) D2) (fun r3 D4 => ?_)
  refine ts_iadd dX12_far_22 ?_
  exact td_iret rfl dX12_far_23
def F_X12_isPerson (a1 : Int) (D : td_D) : Option (Int × td_D) :=
  td_b (F_X12_in a1 0 (tv_w ((D 1 1) - 1)) D) fun r1 D2 =>
  if r1 = 0 ∨ r1 = 1 then some (r1, D2) else none
set_option maxHeartbeats 4000000 in
set_option maxRecDepth 20000 in
theorem S_X12_isPerson (l : Launch) {E : tv_E} (hE : tv_hE E) (d : Nat) (a1 : Int) (D : td_D) : td_msim l E (d + 1) mX12_isPerson g_m [tv_R 1, tv_I a1] D (F_X12_isPerson a1 D) := by
  refine td_meetL (ls := [tv_R 1, tv_I a1]) rfl (Nat.le_of_ble_eq_true rfl) rfl ?_
  unfold F_X12_isPerson
  refine ts_iload_n (i := 1) rfl rfl dX12_isPerson_0 ?_
  refine ts_iconst rfl dX12_isPerson_1 ?_
  refine ts_aload_n (i := 0) rfl rfl dX12_isPerson_2 ?_
  refine td_getI tl_X12_139 rfl ga_m_1 rfl dX12_isPerson_3 ?_
  refine ts_iconst rfl dX12_isPerson_6 ?_
  refine ts_isub dX12_isPerson_7 ?_
  refine tq_callS (y2 := mX12_in) [tv_I a1, tv_I 0, tv_I (tv_w ((D 1 1) - 1))] [] (st' := fun r1 => [tv_I r1]) tw_X12_in tx_X12_in tl_X12_142 rfl rfl rfl rfl (fun _ => rfl) dX12_isPerson_8 (S_X12_in l hE _ a1 0 (tv_w ((D 1 1) - 1)) D) (fun r1 D2 => ?_)
  exact td_zret rfl dX12_isPerson_11
def F_X12_isHive (a1 : Int) (D : td_D) : Option (Int × td_D) :=
  td_b (F_X12_in a1 0 (tv_w ((D 1 3) - 1)) D) fun r1 D2 =>
  if r1 = 0 ∨ r1 = 1 then some (r1, D2) else none
set_option maxHeartbeats 4000000 in
set_option maxRecDepth 20000 in
theorem S_X12_isHive (l : Launch) {E : tv_E} (hE : tv_hE E) (d : Nat) (a1 : Int) (D : td_D) : td_msim l E (d + 1) mX12_isHive g_m [tv_R 1, tv_I a1] D (F_X12_isHive a1 D) := by
  refine td_meetL (ls := [tv_R 1, tv_I a1]) rfl (Nat.le_of_ble_eq_true rfl) rfl ?_
  unfold F_X12_isHive
  refine ts_iload_n (i := 1) rfl rfl dX12_isHive_0 ?_
  refine ts_iconst rfl dX12_isHive_1 ?_
  refine ts_aload_n (i := 0) rfl rfl dX12_isHive_2 ?_
  refine td_getI tl_X12_146 rfl ga_m_1 rfl dX12_isHive_3 ?_
  refine ts_iconst rfl dX12_isHive_6 ?_
  refine ts_isub dX12_isHive_7 ?_
  refine tq_callS (y2 := mX12_in) [tv_I a1, tv_I 0, tv_I (tv_w ((D 1 3) - 1))] [] (st' := fun r1 => [tv_I r1]) tw_X12_in tx_X12_in tl_X12_142 rfl rfl rfl rfl (fun _ => rfl) dX12_isHive_8 (S_X12_in l hE _ a1 0 (tv_w ((D 1 3) - 1)) D) (fun r1 D2 => ?_)
  exact td_zret rfl dX12_isHive_11
def F_X12_isDeed (a1 : Int) (D : td_D) : Option (Int × td_D) :=
  td_b (F_X12_in a1 0 (tv_w ((D 1 6) - 1)) D) fun r1 D2 =>
  if r1 = 0 ∨ r1 = 1 then some (r1, D2) else none
set_option maxHeartbeats 4000000 in
set_option maxRecDepth 20000 in
theorem S_X12_isDeed (l : Launch) {E : tv_E} (hE : tv_hE E) (d : Nat) (a1 : Int) (D : td_D) : td_msim l E (d + 1) mX12_isDeed g_m [tv_R 1, tv_I a1] D (F_X12_isDeed a1 D) := by
  refine td_meetL (ls := [tv_R 1, tv_I a1]) rfl (Nat.le_of_ble_eq_true rfl) rfl ?_
  unfold F_X12_isDeed
  refine ts_iload_n (i := 1) rfl rfl dX12_isDeed_0 ?_
  refine ts_iconst rfl dX12_isDeed_1 ?_
  refine ts_aload_n (i := 0) rfl rfl dX12_isDeed_2 ?_
  refine td_getI tl_X12_149 rfl ga_m_1 rfl dX12_isDeed_3 ?_
  refine ts_iconst rfl dX12_isDeed_6 ?_
  refine ts_isub dX12_isDeed_7 ?_
  refine tq_callS (y2 := mX12_in) [tv_I a1, tv_I 0, tv_I (tv_w ((D 1 6) - 1))] [] (st' := fun r1 => [tv_I r1]) tw_X12_in tx_X12_in tl_X12_142 rfl rfl rfl rfl (fun _ => rfl) dX12_isDeed_8 (S_X12_in l hE _ a1 0 (tv_w ((D 1 6) - 1)) D) (fun r1 D2 => ?_)
  exact td_zret rfl dX12_isDeed_11
def F_X12_isCell (a0 : Int) (D : td_D) : Option (Int × td_D) :=
  td_b (F_X12_in a0 0 99 D) fun r1 D2 =>
  if r1 = 0 ∨ r1 = 1 then some (r1, D2) else none
set_option maxHeartbeats 4000000 in
set_option maxRecDepth 20000 in
theorem S_X12_isCell (l : Launch) {E : tv_E} (hE : tv_hE E) (d : Nat) (a0 : Int) (D : td_D) : td_msim l E (d + 1) mX12_isCell g_m [tv_I a0] D (F_X12_isCell a0 D) := by
  refine td_meetL (ls := [tv_I a0]) rfl (Nat.le_of_ble_eq_true rfl) rfl ?_
  unfold F_X12_isCell
  refine ts_iload_n (i := 0) rfl rfl dX12_isCell_0 ?_
  refine ts_iconst rfl dX12_isCell_1 ?_
  refine ts_bipush rfl dX12_isCell_2 ?_
  refine tq_callS (y2 := mX12_in) [tv_I a0, tv_I 0, tv_I 99] [] (st' := fun r1 => [tv_I r1]) tw_X12_in tx_X12_in tl_X12_142 rfl rfl rfl rfl (fun _ => rfl) dX12_isCell_4 (S_X12_in l hE _ a0 0 99 D) (fun r1 D2 => ?_)
  exact td_zret rfl dX12_isCell_7
def F_X12_isMuch (a0 : Int) (D : td_D) : Option (Int × td_D) :=
  td_b (F_X12_in a0 0 99 D) fun r1 D2 =>
  if r1 = 0 ∨ r1 = 1 then some (r1, D2) else none
set_option maxHeartbeats 4000000 in
set_option maxRecDepth 20000 in
theorem S_X12_isMuch (l : Launch) {E : tv_E} (hE : tv_hE E) (d : Nat) (a0 : Int) (D : td_D) : td_msim l E (d + 1) mX12_isMuch g_m [tv_I a0] D (F_X12_isMuch a0 D) := by
  refine td_meetL (ls := [tv_I a0]) rfl (Nat.le_of_ble_eq_true rfl) rfl ?_
  unfold F_X12_isMuch
  refine ts_iload_n (i := 0) rfl rfl dX12_isMuch_0 ?_
  refine ts_iconst rfl dX12_isMuch_1 ?_
  refine ts_bipush rfl dX12_isMuch_2 ?_
  refine tq_callS (y2 := mX12_in) [tv_I a0, tv_I 0, tv_I 99] [] (st' := fun r1 => [tv_I r1]) tw_X12_in tx_X12_in tl_X12_142 rfl rfl rfl rfl (fun _ => rfl) dX12_isMuch_4 (S_X12_in l hE _ a0 0 99 D) (fun r1 D2 => ?_)
  exact td_zret rfl dX12_isMuch_7
def F_X12_person_33 : Nat → Int → td_D → Option (Int × td_D)
  | 0, _, _ => none
  | n + 1, v2, D =>
    if 5 ≤ v2 then
      td_l (td_upd D 1 1 (tv_w ((D 1 1) + 1))) fun D1 =>
      some (tv_w ((D1 1 1) - 1), D1)
    else
      if 0 ≤ tv_w ((tv_w (6 * v2)) + (D 1 1)) ∧ tv_w ((tv_w (6 * v2)) + (D 1 1)) < ((30 : Nat) : Int) then
        td_l (td_upd D 4 (Int.toNat (tv_w ((tv_w (6 * v2)) + (D 1 1)))) 0) fun D3 =>
        F_X12_person_33 n (tv_w (v2 + 1)) D3
      else none
set_option maxHeartbeats 4000000 in
set_option maxRecDepth 20000 in
theorem S_X12_person_33 {l : Launch} {E : tv_E} (hE : tv_hE E) (d : Nat) : ∀ (n : Nat) (v2 : Int) (D : td_D), td_sim l E (d + 2) mX12_person g_m 33 [tv_R 1, tv_U, tv_I v2] [] D (F_X12_person_33 n v2 D) := by
  intro n
  induction n with
  | zero => intros; exact tv_none
  | succ n ih =>
    intro v2 D
    show td_sim _ _ _ _ _ _ _ _ _ (F_X12_person_33 (n + 1) v2 D)
    unfold F_X12_person_33
    refine ts_iload_n (i := 2) rfl rfl dX12_person_33 ?_
    refine ts_iconst rfl dX12_person_34 ?_
    refine td_icmp_ge (tgt := 59) rfl dX12_person_35 ?_ ?_
    · refine ts_aload_n (i := 0) rfl rfl dX12_person_59 ?_
      refine ts_dupR dX12_person_60 ?_
      refine td_getI tl_X12_139 rfl ga_m_1 rfl dX12_person_61 ?_
      refine ts_iconst rfl dX12_person_64 ?_
      refine ts_iadd dX12_person_65 ?_
      refine td_putI tf_X12_139 (by intro h; cases h) rfl ga_m_1 rfl dX12_person_66 ?_
      refine td_let (fun D1 => ?_)
      refine ts_aload_n (i := 0) rfl rfl dX12_person_69 ?_
      refine td_getI tl_X12_139 rfl ga_m_1 rfl dX12_person_70 ?_
      refine ts_iconst rfl dX12_person_73 ?_
      refine ts_isub dX12_person_74 ?_
      exact td_iret rfl dX12_person_75
    · refine ts_aload_n (i := 0) rfl rfl dX12_person_38 ?_
      refine td_getR (q := 4) tl_X12_16 rfl ga_m_1 rfl dX12_person_39 ?_
      refine ts_bipush rfl dX12_person_42 ?_
      refine ts_iload_n (i := 2) rfl rfl dX12_person_44 ?_
      refine ts_imul dX12_person_45 ?_
      refine ts_aload_n (i := 0) rfl rfl dX12_person_46 ?_
      refine td_getI tl_X12_139 rfl ga_m_1 rfl dX12_person_47 ?_
      refine ts_iadd dX12_person_50 ?_
      refine ts_iconst rfl dX12_person_51 ?_
      refine td_guard (fun h2 => ?_)
      refine td_iastK ga_m_4 (gn_m_4 _) h2 dX12_person_52 ?_
      refine td_let (fun D3 => ?_)
      refine tq_iinc [tv_R 1, tv_U, tv_I (tv_w (v2 + 1))] rfl rfl rfl dX12_person_53 ?_
      refine ts_goto (tgt := 33) rfl dX12_person_56 ?_
      exact ih (tv_w (v2 + 1)) D3
def F_X12_person (a1 : Int) (D : td_D) : Option (Int × td_D) :=
  td_b (F_X12_isMuch a1 D) fun r4 D5 =>
  if r4 = 0 then
    some ((-1), D5)
  else
    if D5 1 1 = 6 then
      some ((-3), D5)
    else
      if 0 ≤ D5 1 1 ∧ D5 1 1 < ((6 : Nat) : Int) then
        td_l (td_upd D5 2 (Int.toNat (D5 1 1)) a1) fun D7 =>
        F_X12_person_33 tf_N 0 D7
      else none
set_option maxHeartbeats 4000000 in
set_option maxRecDepth 20000 in
theorem S_X12_person (l : Launch) {E : tv_E} (hE : tv_hE E) (d : Nat) (a1 : Int) (D : td_D) : td_msim l E (d + 2) mX12_person g_m [tv_R 1, tv_I a1] D (F_X12_person a1 D) := by
  refine td_meetL (ls := [tv_R 1, tv_I a1, tv_U]) rfl (Nat.le_of_ble_eq_true rfl) rfl ?_
  unfold F_X12_person
  refine ts_iload_n (i := 1) rfl rfl dX12_person_0 ?_
  refine tq_callS (y2 := mX12_isMuch) [tv_I a1] [] (st' := fun r4 => [tv_I r4]) tw_X12_isMuch tx_X12_isMuch tl_X12_152 rfl rfl rfl rfl (fun _ => rfl) dX12_person_1 (S_X12_isMuch l hE _ a1 D) (fun r4 D5 => ?_)
  refine td_if_ne (tgt := 9) rfl dX12_person_4 ?_ ?_
  · refine ts_iconst rfl dX12_person_7 ?_
    exact td_iret rfl dX12_person_8
  · refine ts_aload_n (i := 0) rfl rfl dX12_person_9 ?_
    refine td_getI tl_X12_139 rfl ga_m_1 rfl dX12_person_10 ?_
    refine ts_bipush rfl dX12_person_13 ?_
    refine td_icmp_ne (tgt := 21) rfl dX12_person_15 ?_ ?_
    · refine ts_bipush rfl dX12_person_18 ?_
      exact td_iret rfl dX12_person_20
    · refine ts_aload_n (i := 0) rfl rfl dX12_person_21 ?_
      refine td_getR (q := 2) tl_X12_7 rfl ga_m_1 rfl dX12_person_22 ?_
      refine ts_aload_n (i := 0) rfl rfl dX12_person_25 ?_
      refine td_getI tl_X12_139 rfl ga_m_1 rfl dX12_person_26 ?_
      refine ts_iload_n (i := 1) rfl rfl dX12_person_29 ?_
      refine td_guard (fun h6 => ?_)
      refine td_iastK ga_m_2 (gn_m_2 _) h6 dX12_person_30 ?_
      refine td_let (fun D7 => ?_)
      refine ts_iconst rfl dX12_person_31 ?_
      refine tq_istore_n [tv_R 1, tv_I a1, tv_I 0] rfl (Nat.le_of_ble_eq_true rfl) rfl rfl dX12_person_32 ?_
      refine tv_weak (ls' := [tv_R 1, tv_U, tv_I 0]) ⟨Or.inr rfl, Or.inl rfl, Or.inr rfl, trivial⟩ ?_
      exact S_X12_person_33 hE d tf_N 0 D7
def F_X12_hive_32 : Nat → Int → td_D → Option (Int × td_D)
  | 0, _, _ => none
  | n + 1, v2, D =>
    if 6 ≤ v2 then
      td_l (td_upd D 1 3 (tv_w ((D 1 3) + 1))) fun D1 =>
      some (tv_w ((D1 1 3) - 1), D1)
    else
      if 0 ≤ tv_w ((tv_w (6 * (D 1 3))) + v2) ∧ tv_w ((tv_w (6 * (D 1 3))) + v2) < ((30 : Nat) : Int) then
        td_l (td_upd D 4 (Int.toNat (tv_w ((tv_w (6 * (D 1 3))) + v2))) 0) fun D3 =>
        F_X12_hive_32 n (tv_w (v2 + 1)) D3
      else none
set_option maxHeartbeats 4000000 in
set_option maxRecDepth 20000 in
theorem S_X12_hive_32 {l : Launch} {E : tv_E} (hE : tv_hE E) (d : Nat) : ∀ (n : Nat) (v2 : Int) (D : td_D), td_sim l E (d + 2) mX12_hive g_m 32 [tv_R 1, tv_U, tv_I v2] [] D (F_X12_hive_32 n v2 D) := by
  intro n
  induction n with
  | zero => intros; exact tv_none
  | succ n ih =>
    intro v2 D
    show td_sim _ _ _ _ _ _ _ _ _ (F_X12_hive_32 (n + 1) v2 D)
    unfold F_X12_hive_32
    refine ts_iload_n (i := 2) rfl rfl dX12_hive_32 ?_
    refine ts_bipush rfl dX12_hive_33 ?_
    refine td_icmp_ge (tgt := 59) rfl dX12_hive_35 ?_ ?_
    · refine ts_aload_n (i := 0) rfl rfl dX12_hive_59 ?_
      refine ts_dupR dX12_hive_60 ?_
      refine td_getI tl_X12_146 rfl ga_m_1 rfl dX12_hive_61 ?_
      refine ts_iconst rfl dX12_hive_64 ?_
      refine ts_iadd dX12_hive_65 ?_
      refine td_putI tf_X12_146 (by intro h; cases h) rfl ga_m_1 rfl dX12_hive_66 ?_
      refine td_let (fun D1 => ?_)
      refine ts_aload_n (i := 0) rfl rfl dX12_hive_69 ?_
      refine td_getI tl_X12_146 rfl ga_m_1 rfl dX12_hive_70 ?_
      refine ts_iconst rfl dX12_hive_73 ?_
      refine ts_isub dX12_hive_74 ?_
      exact td_iret rfl dX12_hive_75
    · refine ts_aload_n (i := 0) rfl rfl dX12_hive_38 ?_
      refine td_getR (q := 4) tl_X12_16 rfl ga_m_1 rfl dX12_hive_39 ?_
      refine ts_bipush rfl dX12_hive_42 ?_
      refine ts_aload_n (i := 0) rfl rfl dX12_hive_44 ?_
      refine td_getI tl_X12_146 rfl ga_m_1 rfl dX12_hive_45 ?_
      refine ts_imul dX12_hive_48 ?_
      refine ts_iload_n (i := 2) rfl rfl dX12_hive_49 ?_
      refine ts_iadd dX12_hive_50 ?_
      refine ts_iconst rfl dX12_hive_51 ?_
      refine td_guard (fun h2 => ?_)
      refine td_iastK ga_m_4 (gn_m_4 _) h2 dX12_hive_52 ?_
      refine td_let (fun D3 => ?_)
      refine tq_iinc [tv_R 1, tv_U, tv_I (tv_w (v2 + 1))] rfl rfl rfl dX12_hive_53 ?_
      refine ts_goto (tgt := 32) rfl dX12_hive_56 ?_
      exact ih (tv_w (v2 + 1)) D3
def F_X12_hive (a1 : Int) (D : td_D) : Option (Int × td_D) :=
  td_b (F_X12_isCell a1 D) fun r4 D5 =>
  if r4 = 0 then
    some ((-1), D5)
  else
    if D5 1 3 = 5 then
      some ((-3), D5)
    else
      if 0 ≤ D5 1 3 ∧ D5 1 3 < ((6 : Nat) : Int) then
        td_l (td_upd D5 3 (Int.toNat (D5 1 3)) a1) fun D7 =>
        F_X12_hive_32 tf_N 0 D7
      else none
set_option maxHeartbeats 4000000 in
set_option maxRecDepth 20000 in
theorem S_X12_hive (l : Launch) {E : tv_E} (hE : tv_hE E) (d : Nat) (a1 : Int) (D : td_D) : td_msim l E (d + 2) mX12_hive g_m [tv_R 1, tv_I a1] D (F_X12_hive a1 D) := by
  refine td_meetL (ls := [tv_R 1, tv_I a1, tv_U]) rfl (Nat.le_of_ble_eq_true rfl) rfl ?_
  unfold F_X12_hive
  refine ts_iload_n (i := 1) rfl rfl dX12_hive_0 ?_
  refine tq_callS (y2 := mX12_isCell) [tv_I a1] [] (st' := fun r4 => [tv_I r4]) tw_X12_isCell tx_X12_isCell tl_X12_156 rfl rfl rfl rfl (fun _ => rfl) dX12_hive_1 (S_X12_isCell l hE _ a1 D) (fun r4 D5 => ?_)
  refine td_if_ne (tgt := 9) rfl dX12_hive_4 ?_ ?_
  · refine ts_iconst rfl dX12_hive_7 ?_
    exact td_iret rfl dX12_hive_8
  · refine ts_aload_n (i := 0) rfl rfl dX12_hive_9 ?_
    refine td_getI tl_X12_146 rfl ga_m_1 rfl dX12_hive_10 ?_
    refine ts_iconst rfl dX12_hive_13 ?_
    refine td_icmp_ne (tgt := 20) rfl dX12_hive_14 ?_ ?_
    · refine ts_bipush rfl dX12_hive_17 ?_
      exact td_iret rfl dX12_hive_19
    · refine ts_aload_n (i := 0) rfl rfl dX12_hive_20 ?_
      refine td_getR (q := 3) tl_X12_13 rfl ga_m_1 rfl dX12_hive_21 ?_
      refine ts_aload_n (i := 0) rfl rfl dX12_hive_24 ?_
      refine td_getI tl_X12_146 rfl ga_m_1 rfl dX12_hive_25 ?_
      refine ts_iload_n (i := 1) rfl rfl dX12_hive_28 ?_
      refine td_guard (fun h6 => ?_)
      refine td_iastK ga_m_3 (gn_m_3 _) h6 dX12_hive_29 ?_
      refine td_let (fun D7 => ?_)
      refine ts_iconst rfl dX12_hive_30 ?_
      refine tq_istore_n [tv_R 1, tv_I a1, tv_I 0] rfl (Nat.le_of_ble_eq_true rfl) rfl rfl dX12_hive_31 ?_
      refine tv_weak (ls' := [tv_R 1, tv_U, tv_I 0]) ⟨Or.inr rfl, Or.inl rfl, Or.inr rfl, trivial⟩ ?_
      exact S_X12_hive_32 hE d tf_N 0 D7
def F_X12_areDeed (a0 : Int) (a1 : Int) (D : td_D) : Option (Int × td_D) :=
  td_b (F_X12_isMuch a0 D) fun r1 D2 =>
  if r1 = 0 then
    some (0, D2)
  else
    td_b (F_X12_isMuch a1 D2) fun r3 D4 =>
    if r3 = 0 then
      some (0, D4)
    else
      if a1 < a0 then
        some (0, D4)
      else
        some (1, D4)
set_option maxHeartbeats 4000000 in
set_option maxRecDepth 20000 in
theorem S_X12_areDeed (l : Launch) {E : tv_E} (hE : tv_hE E) (d : Nat) (a0 : Int) (a1 : Int) (D : td_D) : td_msim l E (d + 2) mX12_areDeed g_m [tv_I a0, tv_I a1] D (F_X12_areDeed a0 a1 D) := by
  refine td_meetL (ls := [tv_I a0, tv_I a1]) rfl (Nat.le_of_ble_eq_true rfl) rfl ?_
  unfold F_X12_areDeed
  refine ts_iload_n (i := 0) rfl rfl dX12_areDeed_0 ?_
  refine tq_callS (y2 := mX12_isMuch) [tv_I a0] [] (st' := fun r1 => [tv_I r1]) tw_X12_isMuch tx_X12_isMuch tl_X12_152 rfl rfl rfl rfl (fun _ => rfl) dX12_areDeed_1 (S_X12_isMuch l hE _ a0 D) (fun r1 D2 => ?_)
  refine td_if_eq (tgt := 23) rfl dX12_areDeed_4 ?_ ?_
  · refine ts_iconst rfl dX12_areDeed_23 ?_
    exact td_zretK (Or.inl rfl) rfl dX12_areDeed_24
  · refine ts_iload_n (i := 1) rfl rfl dX12_areDeed_7 ?_
    refine tq_callS (y2 := mX12_isMuch) [tv_I a1] [] (st' := fun r3 => [tv_I r3]) tw_X12_isMuch tx_X12_isMuch tl_X12_152 rfl rfl rfl rfl (fun _ => rfl) dX12_areDeed_8 (S_X12_isMuch l hE _ a1 D2) (fun r3 D4 => ?_)
    refine td_if_eq (tgt := 23) rfl dX12_areDeed_11 ?_ ?_
    · refine ts_iconst rfl dX12_areDeed_23 ?_
      exact td_zretK (Or.inl rfl) rfl dX12_areDeed_24
    · refine ts_iload_n (i := 0) rfl rfl dX12_areDeed_14 ?_
      refine ts_iload_n (i := 1) rfl rfl dX12_areDeed_15 ?_
      refine td_icmp_gt (tgt := 23) rfl dX12_areDeed_16 ?_ ?_
      · refine ts_iconst rfl dX12_areDeed_23 ?_
        exact td_zretK (Or.inl rfl) rfl dX12_areDeed_24
      · refine ts_iconst rfl dX12_areDeed_19 ?_
        refine ts_goto (tgt := 24) rfl dX12_areDeed_20 ?_
        exact td_zretK (Or.inr rfl) rfl dX12_areDeed_24
def F_X12_addDeed (a1 : Int) (a2 : Int) (a3 : Int) (D : td_D) : Option (Int × td_D) :=
  if 0 ≤ D 1 6 ∧ D 1 6 < ((10 : Nat) : Int) then
    td_l (td_upd D 5 (Int.toNat (D 1 6)) a1) fun D2 =>
    if 0 ≤ D2 1 6 ∧ D2 1 6 < ((10 : Nat) : Int) then
      td_l (td_upd D2 6 (Int.toNat (D2 1 6)) a2) fun D4 =>
      if 0 ≤ D4 1 6 ∧ D4 1 6 < ((10 : Nat) : Int) then
        td_l (td_upd D4 7 (Int.toNat (D4 1 6)) a3) fun D6 =>
        td_l (td_upd D6 1 6 (tv_w ((D6 1 6) + 1))) fun D7 =>
        some (tv_w ((D7 1 6) - 1), D7)
      else none
    else none
  else none
set_option maxHeartbeats 4000000 in
set_option maxRecDepth 20000 in
theorem S_X12_addDeed (l : Launch) {E : tv_E} (hE : tv_hE E) (d : Nat) (a1 : Int) (a2 : Int) (a3 : Int) (D : td_D) : td_msim l E (d + 0) mX12_addDeed g_m [tv_R 1, tv_I a1, tv_I a2, tv_I a3] D (F_X12_addDeed a1 a2 a3 D) := by
  refine td_meetL (ls := [tv_R 1, tv_I a1, tv_I a2, tv_I a3]) rfl (Nat.le_of_ble_eq_true rfl) rfl ?_
  unfold F_X12_addDeed
  refine ts_aload_n (i := 0) rfl rfl dX12_addDeed_0 ?_
  refine td_getR (q := 5) tl_X12_19 rfl ga_m_1 rfl dX12_addDeed_1 ?_
  refine ts_aload_n (i := 0) rfl rfl dX12_addDeed_4 ?_
  refine td_getI tl_X12_149 rfl ga_m_1 rfl dX12_addDeed_5 ?_
  refine ts_iload_n (i := 1) rfl rfl dX12_addDeed_8 ?_
  refine td_guard (fun h1 => ?_)
  refine td_iastK ga_m_5 (gn_m_5 _) h1 dX12_addDeed_9 ?_
  refine td_let (fun D2 => ?_)
  refine ts_aload_n (i := 0) rfl rfl dX12_addDeed_10 ?_
  refine td_getR (q := 6) tl_X12_22 rfl ga_m_1 rfl dX12_addDeed_11 ?_
  refine ts_aload_n (i := 0) rfl rfl dX12_addDeed_14 ?_
  refine td_getI tl_X12_149 rfl ga_m_1 rfl dX12_addDeed_15 ?_
  refine ts_iload_n (i := 2) rfl rfl dX12_addDeed_18 ?_
  refine td_guard (fun h3 => ?_)
  refine td_iastK ga_m_6 (gn_m_6 _) h3 dX12_addDeed_19 ?_
  refine td_let (fun D4 => ?_)
  refine ts_aload_n (i := 0) rfl rfl dX12_addDeed_20 ?_
  refine td_getR (q := 7) tl_X12_25 rfl ga_m_1 rfl dX12_addDeed_21 ?_
  refine ts_aload_n (i := 0) rfl rfl dX12_addDeed_24 ?_
  refine td_getI tl_X12_149 rfl ga_m_1 rfl dX12_addDeed_25 ?_
  refine ts_iload_n (i := 3) rfl rfl dX12_addDeed_28 ?_
  refine td_guard (fun h5 => ?_)
  refine td_iastK ga_m_7 (gn_m_7 _) h5 dX12_addDeed_29 ?_
  refine td_let (fun D6 => ?_)
  refine ts_aload_n (i := 0) rfl rfl dX12_addDeed_30 ?_
  refine ts_dupR dX12_addDeed_31 ?_
  refine td_getI tl_X12_149 rfl ga_m_1 rfl dX12_addDeed_32 ?_
  refine ts_iconst rfl dX12_addDeed_35 ?_
  refine ts_iadd dX12_addDeed_36 ?_
  refine td_putI tf_X12_149 (by intro h; cases h) rfl ga_m_1 rfl dX12_addDeed_37 ?_
  refine td_let (fun D7 => ?_)
  refine ts_aload_n (i := 0) rfl rfl dX12_addDeed_40 ?_
  refine td_getI tl_X12_149 rfl ga_m_1 rfl dX12_addDeed_41 ?_
  refine ts_iconst rfl dX12_addDeed_44 ?_
  refine ts_isub dX12_addDeed_45 ?_
  exact td_iret rfl dX12_addDeed_46
def F_X12_deed (a1 : Int) (a2 : Int) (D : td_D) : Option (Int × td_D) :=
  td_b (F_X12_areDeed a1 a2 D) fun r1 D2 =>
  if r1 = 0 then
    some ((-1), D2)
  else
    if D2 1 6 = 10 then
      some ((-3), D2)
    else
      td_b (F_X12_addDeed a1 a2 10 D2) fun r3 D4 =>
      some (r3, D4)
set_option maxHeartbeats 4000000 in
set_option maxRecDepth 20000 in
theorem S_X12_deed (l : Launch) {E : tv_E} (hE : tv_hE E) (d : Nat) (a1 : Int) (a2 : Int) (D : td_D) : td_msim l E (d + 3) mX12_deed g_m [tv_R 1, tv_I a1, tv_I a2] D (F_X12_deed a1 a2 D) := by
  refine td_meetL (ls := [tv_R 1, tv_I a1, tv_I a2]) rfl (Nat.le_of_ble_eq_true rfl) rfl ?_
  unfold F_X12_deed
  refine ts_iload_n (i := 1) rfl rfl dX12_deed_0 ?_
  refine ts_iload_n (i := 2) rfl rfl dX12_deed_1 ?_
  refine tq_callS (y2 := mX12_areDeed) [tv_I a1, tv_I a2] [] (st' := fun r1 => [tv_I r1]) tw_X12_areDeed tx_X12_areDeed tl_X12_159 rfl rfl rfl rfl (fun _ => rfl) dX12_deed_2 (S_X12_areDeed l hE _ a1 a2 D) (fun r1 D2 => ?_)
  refine td_if_ne (tgt := 10) rfl dX12_deed_5 ?_ ?_
  · refine ts_iconst rfl dX12_deed_8 ?_
    exact td_iret rfl dX12_deed_9
  · refine ts_aload_n (i := 0) rfl rfl dX12_deed_10 ?_
    refine td_getI tl_X12_149 rfl ga_m_1 rfl dX12_deed_11 ?_
    refine ts_bipush rfl dX12_deed_14 ?_
    refine td_icmp_ne (tgt := 24) rfl dX12_deed_16 ?_ ?_
    · refine ts_bipush rfl dX12_deed_19 ?_
      refine ts_goto (tgt := 32) rfl dX12_deed_21 ?_
      exact td_iret rfl dX12_deed_32
    · refine ts_aload_n (i := 0) rfl rfl dX12_deed_24 ?_
      refine ts_iload_n (i := 1) rfl rfl dX12_deed_25 ?_
      refine ts_iload_n (i := 2) rfl rfl dX12_deed_26 ?_
      refine ts_bipush rfl dX12_deed_27 ?_
      refine tq_callV (y2 := mX12_addDeed) [tv_I a1, tv_I a2, tv_I 10] [] 1 (st' := fun r3 => [tv_I r3]) tw_X12_addDeed tx_X12_addDeed tw_c12 ga_m_1 tl_X12_163 rfl rfl rfl rfl (fun _ => rfl) dX12_deed_29 (S_X12_addDeed l hE _ a1 a2 10 D2) (fun r3 D4 => ?_)
      exact td_iret rfl dX12_deed_32
def F_X12_isShelf (a0 : Int) (D : td_D) : Option (Int × td_D) :=
  td_b (F_X12_in a0 0 5 D) fun r1 D2 =>
  if r1 = 0 ∨ r1 = 1 then some (r1, D2) else none
set_option maxHeartbeats 4000000 in
set_option maxRecDepth 20000 in
theorem S_X12_isShelf (l : Launch) {E : tv_E} (hE : tv_hE E) (d : Nat) (a0 : Int) (D : td_D) : td_msim l E (d + 1) mX12_isShelf g_m [tv_I a0] D (F_X12_isShelf a0 D) := by
  refine td_meetL (ls := [tv_I a0]) rfl (Nat.le_of_ble_eq_true rfl) rfl ?_
  unfold F_X12_isShelf
  refine ts_iload_n (i := 0) rfl rfl dX12_isShelf_0 ?_
  refine ts_iconst rfl dX12_isShelf_1 ?_
  refine ts_iconst rfl dX12_isShelf_2 ?_
  refine tq_callS (y2 := mX12_in) [tv_I a0, tv_I 0, tv_I 5] [] (st' := fun r1 => [tv_I r1]) tw_X12_in tx_X12_in tl_X12_142 rfl rfl rfl rfl (fun _ => rfl) dX12_isShelf_3 (S_X12_in l hE _ a0 0 5 D) (fun r1 D2 => ?_)
  exact td_zret rfl dX12_isShelf_6
def F_X12_deeds_58 : Nat → Int → Int → Int → Int → td_D → Option (Int × td_D)
  | 0, _, _, _, _, _ => none
  | n + 1, v1, v2, v3, v4, D =>
    if v3 ≤ v4 then
      some (v3, D)
    else
      if tv_lcmp (tv_wl (v2 + (tv_w (3 * v4)))) 0 < 0 then
        some (v4, D)
      else
        if 0 ≤ v1 ∧ v1 < ((6 : Nat) : Int) then
          if 0 ≤ tv_lcmp (tv_wl ((tv_wl (v2 + (tv_w (3 * v4)))) + 2)) (D 38 (Int.toNat v1)) then
            some (v4, D)
          else
            if D 1 6 = 10 then
              some (v4, D)
            else
              if 0 ≤ tv_w ((tv_w (60 * v1)) + (tv_w (tv_wl (v2 + (tv_w (3 * v4)))))) ∧ tv_w ((tv_w (60 * v1)) + (tv_w (tv_wl (v2 + (tv_w (3 * v4)))))) < ((360 : Nat) : Int) then
                if 0 ≤ tv_w ((tv_w ((tv_w (60 * v1)) + (tv_w (tv_wl (v2 + (tv_w (3 * v4))))))) + 1) ∧ tv_w ((tv_w ((tv_w (60 * v1)) + (tv_w (tv_wl (v2 + (tv_w (3 * v4))))))) + 1) < ((360 : Nat) : Int) then
                  td_b (F_X12_areDeed (tv_w (D 39 (Int.toNat (tv_w ((tv_w (60 * v1)) + (tv_w (tv_wl (v2 + (tv_w (3 * v4)))))))))) (tv_w (D 39 (Int.toNat (tv_w ((tv_w ((tv_w (60 * v1)) + (tv_w (tv_wl (v2 + (tv_w (3 * v4))))))) + 1))))) D) fun r4 D5 =>
                  if r4 = 0 then
                    some (v4, D5)
                  else
                    if 0 ≤ tv_w ((tv_w ((tv_w (60 * v1)) + (tv_w (tv_wl (v2 + (tv_w (3 * v4))))))) + 2) ∧ tv_w ((tv_w ((tv_w (60 * v1)) + (tv_w (tv_wl (v2 + (tv_w (3 * v4))))))) + 2) < ((360 : Nat) : Int) then
                      td_b (F_X12_isMuch (tv_w (D5 39 (Int.toNat (tv_w ((tv_w ((tv_w (60 * v1)) + (tv_w (tv_wl (v2 + (tv_w (3 * v4))))))) + 2))))) D5) fun r7 D8 =>
                      if r7 = 0 then
                        some (v4, D8)
                      else
                        td_b (F_X12_addDeed (tv_w (D8 39 (Int.toNat (tv_w ((tv_w (60 * v1)) + (tv_w (tv_wl (v2 + (tv_w (3 * v4)))))))))) (tv_w (D8 39 (Int.toNat (tv_w ((tv_w ((tv_w (60 * v1)) + (tv_w (tv_wl (v2 + (tv_w (3 * v4))))))) + 1))))) (tv_w (D8 39 (Int.toNat (tv_w ((tv_w ((tv_w (60 * v1)) + (tv_w (tv_wl (v2 + (tv_w (3 * v4))))))) + 2))))) D8) fun r9 D10 =>
                        F_X12_deeds_58 n v1 v2 v3 (tv_w (v4 + 1)) D10
                    else none
                else none
              else none
        else none
set_option maxHeartbeats 4000000 in
set_option maxRecDepth 20000 in
theorem S_X12_deeds_58 {l : Launch} {E : tv_E} (hE : tv_hE E) (d : Nat) : ∀ (n : Nat) (v1 : Int) (v2 : Int) (v3 : Int) (v4 : Int) (D : td_D), td_sim l E (d + 3) mX12_deeds g_m 58 [tv_R 1, tv_I v1, tv_I v2, tv_I v3, tv_I v4, tv_U, tv_U, tv_U] [] D (F_X12_deeds_58 n v1 v2 v3 v4 D) := by
  intro n
  induction n with
  | zero => intros; exact tv_none
  | succ n ih =>
    intro v1 v2 v3 v4 D
    show td_sim _ _ _ _ _ _ _ _ _ (F_X12_deeds_58 (n + 1) v1 v2 v3 v4 D)
    unfold F_X12_deeds_58
    refine ts_iload rfl dX12_deeds_58 ?_
    refine ts_iload_n (i := 3) rfl rfl dX12_deeds_60 ?_
    refine td_icmp_ge (tgt := 202) rfl dX12_deeds_61 ?_ ?_
    · refine ts_iload_n (i := 3) rfl rfl dX12_deeds_202 ?_
      exact td_iret rfl dX12_deeds_203
    · refine ts_iload_n (i := 2) rfl rfl dX12_deeds_64 ?_
      refine ts_i2l dX12_deeds_65 ?_
      refine ts_iconst rfl dX12_deeds_66 ?_
      refine ts_iload rfl dX12_deeds_67 ?_
      refine ts_imul dX12_deeds_69 ?_
      refine ts_i2l dX12_deeds_70 ?_
      refine ts_ladd dX12_deeds_71 ?_
      refine tq_lstore [tv_R 1, tv_I v1, tv_I v2, tv_I v3, tv_I v4, tv_J (tv_wl (v2 + (tv_w (3 * v4)))), tv_U, tv_U] (Nat.le_of_ble_eq_true rfl) rfl rfl dX12_deeds_72 ?_
      refine ts_lload rfl dX12_deeds_74 ?_
      refine ts_lconst dX12_deeds_76 ?_
      refine ts_lcmp dX12_deeds_77 ?_
      refine td_if_lt (tgt := 107) rfl dX12_deeds_78 ?_ ?_
      · refine ts_iload rfl dX12_deeds_107 ?_
        exact td_iret rfl dX12_deeds_109
      · refine ts_lload rfl dX12_deeds_81 ?_
        refine ts_ldc2 (by unfold tv_inl; decide) tl_X12_170 dX12_deeds_83 ?_
        refine ts_ladd dX12_deeds_86 ?_
        refine ts_aload_n (i := 0) rfl rfl dX12_deeds_87 ?_
        refine td_getR (q := 38) tl_X12_121 rfl ga_m_1 rfl dX12_deeds_88 ?_
        refine ts_iload_n (i := 1) rfl rfl dX12_deeds_91 ?_
        refine td_guard (fun h1 => ?_)
        refine td_ialdK ga_m_38 (gn_m_38 _) h1 dX12_deeds_92 ?_
        refine ts_i2l dX12_deeds_93 ?_
        refine ts_lcmp dX12_deeds_94 ?_
        refine td_if_ge (tgt := 107) rfl dX12_deeds_95 ?_ ?_
        · refine ts_iload rfl dX12_deeds_107 ?_
          exact td_iret rfl dX12_deeds_109
        · refine ts_aload_n (i := 0) rfl rfl dX12_deeds_98 ?_
          refine td_getI tl_X12_149 rfl ga_m_1 rfl dX12_deeds_99 ?_
          refine ts_bipush rfl dX12_deeds_102 ?_
          refine td_icmp_ne (tgt := 110) rfl dX12_deeds_104 ?_ ?_
          · refine ts_iload rfl dX12_deeds_107 ?_
            exact td_iret rfl dX12_deeds_109
          · refine ts_bipush rfl dX12_deeds_110 ?_
            refine ts_iload_n (i := 1) rfl rfl dX12_deeds_112 ?_
            refine ts_imul dX12_deeds_113 ?_
            refine ts_lload rfl dX12_deeds_114 ?_
            refine ts_l2i dX12_deeds_116 ?_
            refine ts_iadd dX12_deeds_117 ?_
            refine tq_istore [tv_R 1, tv_I v1, tv_I v2, tv_I v3, tv_I v4, tv_J (tv_wl (v2 + (tv_w (3 * v4)))), tv_U, tv_I (tv_w ((tv_w (60 * v1)) + (tv_w (tv_wl (v2 + (tv_w (3 * v4)))))))] (Nat.le_of_ble_eq_true rfl) rfl rfl dX12_deeds_118 ?_
            refine ts_aload_n (i := 0) rfl rfl dX12_deeds_120 ?_
            refine td_getR (q := 39) tl_X12_124 rfl ga_m_1 rfl dX12_deeds_121 ?_
            refine ts_iload rfl dX12_deeds_124 ?_
            refine td_guard (fun h2 => ?_)
            refine td_laldK ga_m_39 (gn_m_39 _) h2 dX12_deeds_126 ?_
            refine ts_l2i dX12_deeds_127 ?_
            refine ts_aload_n (i := 0) rfl rfl dX12_deeds_128 ?_
            refine td_getR (q := 39) tl_X12_124 rfl ga_m_1 rfl dX12_deeds_129 ?_
            refine ts_iload rfl dX12_deeds_132 ?_
            refine ts_iconst rfl dX12_deeds_134 ?_
            refine ts_iadd dX12_deeds_135 ?_
            refine td_guard (fun h3 => ?_)
            refine td_laldK ga_m_39 (gn_m_39 _) h3 dX12_deeds_136 ?_
            refine ts_l2i dX12_deeds_137 ?_
            refine tq_callS (y2 := mX12_areDeed) [tv_I (tv_w (D 39 (Int.toNat (tv_w ((tv_w (60 * v1)) + (tv_w (tv_wl (v2 + (tv_w (3 * v4)))))))))), tv_I (tv_w (D 39 (Int.toNat (tv_w ((tv_w ((tv_w (60 * v1)) + (tv_w (tv_wl (v2 + (tv_w (3 * v4))))))) + 1)))))] [] (st' := fun r4 => [tv_I r4]) tw_X12_areDeed tx_X12_areDeed tl_X12_159 rfl rfl rfl rfl (fun _ => rfl) dX12_deeds_138 (S_X12_areDeed l hE _ (tv_w (D 39 (Int.toNat (tv_w ((tv_w (60 * v1)) + (tv_w (tv_wl (v2 + (tv_w (3 * v4)))))))))) (tv_w (D 39 (Int.toNat (tv_w ((tv_w ((tv_w (60 * v1)) + (tv_w (tv_wl (v2 + (tv_w (3 * v4))))))) + 1))))) D) (fun r4 D5 => ?_)
            refine td_if_eq (tgt := 160) rfl dX12_deeds_141 ?_ ?_
            · refine ts_iload rfl dX12_deeds_160 ?_
              exact td_iret rfl dX12_deeds_162
            · refine ts_aload_n (i := 0) rfl rfl dX12_deeds_144 ?_
              refine td_getR (q := 39) tl_X12_124 rfl ga_m_1 rfl dX12_deeds_145 ?_
              refine ts_iload rfl dX12_deeds_148 ?_
              refine ts_iconst rfl dX12_deeds_150 ?_
              refine ts_iadd dX12_deeds_151 ?_
              refine td_guard (fun h6 => ?_)
              refine td_laldK ga_m_39 (gn_m_39 _) h6 dX12_deeds_152 ?_
              refine ts_l2i dX12_deeds_153 ?_
              refine tq_callS (y2 := mX12_isMuch) [tv_I (tv_w (D5 39 (Int.toNat (tv_w ((tv_w ((tv_w (60 * v1)) + (tv_w (tv_wl (v2 + (tv_w (3 * v4))))))) + 2)))))] [] (st' := fun r7 => [tv_I r7]) tw_X12_isMuch tx_X12_isMuch tl_X12_152 rfl rfl rfl rfl (fun _ => rfl) dX12_deeds_154 (S_X12_isMuch l hE _ (tv_w (D5 39 (Int.toNat (tv_w ((tv_w ((tv_w (60 * v1)) + (tv_w (tv_wl (v2 + (tv_w (3 * v4))))))) + 2))))) D5) (fun r7 D8 => ?_)
              refine td_if_ne (tgt := 163) rfl dX12_deeds_157 ?_ ?_
              · refine ts_iload rfl dX12_deeds_160 ?_
                exact td_iret rfl dX12_deeds_162
              · refine ts_aload_n (i := 0) rfl rfl dX12_deeds_163 ?_
                refine ts_aload_n (i := 0) rfl rfl dX12_deeds_164 ?_
                refine td_getR (q := 39) tl_X12_124 rfl ga_m_1 rfl dX12_deeds_165 ?_
                refine ts_iload rfl dX12_deeds_168 ?_
                refine td_laldK ga_m_39 (gn_m_39 _) h2 dX12_deeds_170 ?_
                refine ts_l2i dX12_deeds_171 ?_
                refine ts_aload_n (i := 0) rfl rfl dX12_deeds_172 ?_
                refine td_getR (q := 39) tl_X12_124 rfl ga_m_1 rfl dX12_deeds_173 ?_
                refine ts_iload rfl dX12_deeds_176 ?_
                refine ts_iconst rfl dX12_deeds_178 ?_
                refine ts_iadd dX12_deeds_179 ?_
                refine td_laldK ga_m_39 (gn_m_39 _) h3 dX12_deeds_180 ?_
                refine ts_l2i dX12_deeds_181 ?_
                refine ts_aload_n (i := 0) rfl rfl dX12_deeds_182 ?_
                refine td_getR (q := 39) tl_X12_124 rfl ga_m_1 rfl dX12_deeds_183 ?_
                refine ts_iload rfl dX12_deeds_186 ?_
                refine ts_iconst rfl dX12_deeds_188 ?_
                refine ts_iadd dX12_deeds_189 ?_
                refine td_laldK ga_m_39 (gn_m_39 _) h6 dX12_deeds_190 ?_
                refine ts_l2i dX12_deeds_191 ?_
                refine tq_callV (y2 := mX12_addDeed) [tv_I (tv_w (D8 39 (Int.toNat (tv_w ((tv_w (60 * v1)) + (tv_w (tv_wl (v2 + (tv_w (3 * v4)))))))))), tv_I (tv_w (D8 39 (Int.toNat (tv_w ((tv_w ((tv_w (60 * v1)) + (tv_w (tv_wl (v2 + (tv_w (3 * v4))))))) + 1))))), tv_I (tv_w (D8 39 (Int.toNat (tv_w ((tv_w ((tv_w (60 * v1)) + (tv_w (tv_wl (v2 + (tv_w (3 * v4))))))) + 2)))))] [] 1 (st' := fun r9 => [tv_I r9]) tw_X12_addDeed tx_X12_addDeed tw_c12 ga_m_1 tl_X12_163 rfl rfl rfl rfl (fun _ => rfl) dX12_deeds_192 (S_X12_addDeed l hE _ (tv_w (D8 39 (Int.toNat (tv_w ((tv_w (60 * v1)) + (tv_w (tv_wl (v2 + (tv_w (3 * v4)))))))))) (tv_w (D8 39 (Int.toNat (tv_w ((tv_w ((tv_w (60 * v1)) + (tv_w (tv_wl (v2 + (tv_w (3 * v4))))))) + 1))))) (tv_w (D8 39 (Int.toNat (tv_w ((tv_w ((tv_w (60 * v1)) + (tv_w (tv_wl (v2 + (tv_w (3 * v4))))))) + 2))))) D8) (fun r9 D10 => ?_)
                refine ts_popI dX12_deeds_195 ?_
                refine tq_iinc [tv_R 1, tv_I v1, tv_I v2, tv_I v3, tv_I (tv_w (v4 + 1)), tv_J (tv_wl (v2 + (tv_w (3 * v4)))), tv_U, tv_I (tv_w ((tv_w (60 * v1)) + (tv_w (tv_wl (v2 + (tv_w (3 * v4)))))))] rfl rfl rfl dX12_deeds_196 ?_
                refine ts_goto (tgt := 58) rfl dX12_deeds_199 ?_
                refine tv_weak (ls' := [tv_R 1, tv_I v1, tv_I v2, tv_I v3, tv_I (tv_w (v4 + 1)), tv_U, tv_U, tv_U]) ⟨Or.inr rfl, Or.inr rfl, Or.inr rfl, Or.inr rfl, Or.inr rfl, Or.inl rfl, Or.inl rfl, Or.inl rfl, trivial⟩ ?_
                exact ih v1 v2 v3 (tv_w (v4 + 1)) D10
def F_X12_deeds (a1 : Int) (a2 : Int) (a3 : Int) (D : td_D) : Option (Int × td_D) :=
  td_b (F_X12_isShelf a1 D) fun r11 D12 =>
  if r11 = 0 then
    some ((-1), D12)
  else
    td_b (F_X12_in a3 1 10 D12) fun r13 D14 =>
    if r13 = 0 then
      some ((-1), D14)
    else
      if 0 ≤ a1 ∧ a1 < ((6 : Nat) : Int) then
        if D14 37 (Int.toNat a1) = (-1) then
          if D14 37 (Int.toNat a1) = (-1) then
            some (0, D14)
          else
            F_X12_deeds_58 tf_N a1 a2 a3 0 D14
        else
          if D14 37 (Int.toNat a1) = (-2) then
            if D14 37 (Int.toNat a1) = (-1) then
              some (0, D14)
            else
              F_X12_deeds_58 tf_N a1 a2 a3 0 D14
          else
            some ((-12), D14)
      else none
set_option maxHeartbeats 4000000 in
set_option maxRecDepth 20000 in
theorem S_X12_deeds (l : Launch) {E : tv_E} (hE : tv_hE E) (d : Nat) (a1 : Int) (a2 : Int) (a3 : Int) (D : td_D) : td_msim l E (d + 3) mX12_deeds g_m [tv_R 1, tv_I a1, tv_I a2, tv_I a3] D (F_X12_deeds a1 a2 a3 D) := by
  refine td_meetL (ls := [tv_R 1, tv_I a1, tv_I a2, tv_I a3, tv_U, tv_U, tv_U, tv_U]) rfl (Nat.le_of_ble_eq_true rfl) rfl ?_
  unfold F_X12_deeds
  refine ts_iload_n (i := 1) rfl rfl dX12_deeds_0 ?_
  refine tq_callS (y2 := mX12_isShelf) [tv_I a1] [] (st' := fun r11 => [tv_I r11]) tw_X12_isShelf tx_X12_isShelf tl_X12_167 rfl rfl rfl rfl (fun _ => rfl) dX12_deeds_1 (S_X12_isShelf l hE _ a1 D) (fun r11 D12 => ?_)
  refine td_if_eq (tgt := 17) rfl dX12_deeds_4 ?_ ?_
  · refine ts_iconst rfl dX12_deeds_17 ?_
    exact td_iret rfl dX12_deeds_18
  · refine ts_iload_n (i := 3) rfl rfl dX12_deeds_7 ?_
    refine ts_iconst rfl dX12_deeds_8 ?_
    refine ts_bipush rfl dX12_deeds_9 ?_
    refine tq_callS (y2 := mX12_in) [tv_I a3, tv_I 1, tv_I 10] [] (st' := fun r13 => [tv_I r13]) tw_X12_in tx_X12_in tl_X12_142 rfl rfl rfl rfl (fun _ => rfl) dX12_deeds_11 (S_X12_in l hE _ a3 1 10 D12) (fun r13 D14 => ?_)
    refine td_if_ne (tgt := 19) rfl dX12_deeds_14 ?_ ?_
    · refine ts_iconst rfl dX12_deeds_17 ?_
      exact td_iret rfl dX12_deeds_18
    · refine ts_aload_n (i := 0) rfl rfl dX12_deeds_19 ?_
      refine td_getR (q := 37) tl_X12_118 rfl ga_m_1 rfl dX12_deeds_20 ?_
      refine ts_iload_n (i := 1) rfl rfl dX12_deeds_23 ?_
      refine td_guard (fun h15 => ?_)
      refine td_ialdK ga_m_37 (gn_m_37 _) h15 dX12_deeds_24 ?_
      refine ts_iconst rfl dX12_deeds_25 ?_
      refine td_icmp_eq (tgt := 43) rfl dX12_deeds_26 ?_ ?_
      · refine ts_aload_n (i := 0) rfl rfl dX12_deeds_43 ?_
        refine td_getR (q := 37) tl_X12_118 rfl ga_m_1 rfl dX12_deeds_44 ?_
        refine ts_iload_n (i := 1) rfl rfl dX12_deeds_47 ?_
        refine td_ialdK ga_m_37 (gn_m_37 _) h15 dX12_deeds_48 ?_
        refine ts_iconst rfl dX12_deeds_49 ?_
        refine td_icmp_ne (tgt := 55) rfl dX12_deeds_50 ?_ ?_
        · refine ts_iconst rfl dX12_deeds_53 ?_
          exact td_iret rfl dX12_deeds_54
        · refine ts_iconst rfl dX12_deeds_55 ?_
          refine tq_istore [tv_R 1, tv_I a1, tv_I a2, tv_I a3, tv_I 0, tv_U, tv_U, tv_U] (Nat.le_of_ble_eq_true rfl) rfl rfl dX12_deeds_56 ?_
          exact S_X12_deeds_58 hE d tf_N a1 a2 a3 0 D14
      · refine ts_aload_n (i := 0) rfl rfl dX12_deeds_29 ?_
        refine td_getR (q := 37) tl_X12_118 rfl ga_m_1 rfl dX12_deeds_30 ?_
        refine ts_iload_n (i := 1) rfl rfl dX12_deeds_33 ?_
        refine td_ialdK ga_m_37 (gn_m_37 _) h15 dX12_deeds_34 ?_
        refine ts_bipush rfl dX12_deeds_35 ?_
        refine td_icmp_eq (tgt := 43) rfl dX12_deeds_37 ?_ ?_
        · refine ts_aload_n (i := 0) rfl rfl dX12_deeds_43 ?_
          refine td_getR (q := 37) tl_X12_118 rfl ga_m_1 rfl dX12_deeds_44 ?_
          refine ts_iload_n (i := 1) rfl rfl dX12_deeds_47 ?_
          refine td_ialdK ga_m_37 (gn_m_37 _) h15 dX12_deeds_48 ?_
          refine ts_iconst rfl dX12_deeds_49 ?_
          refine td_icmp_ne (tgt := 55) rfl dX12_deeds_50 ?_ ?_
          · refine ts_iconst rfl dX12_deeds_53 ?_
            exact td_iret rfl dX12_deeds_54
          · refine ts_iconst rfl dX12_deeds_55 ?_
            refine tq_istore [tv_R 1, tv_I a1, tv_I a2, tv_I a3, tv_I 0, tv_U, tv_U, tv_U] (Nat.le_of_ble_eq_true rfl) rfl rfl dX12_deeds_56 ?_
            exact S_X12_deeds_58 hE d tf_N a1 a2 a3 0 D14
        · refine ts_bipush rfl dX12_deeds_40 ?_
          exact td_iret rfl dX12_deeds_42
def F_X12_valueAt (a1 : Int) (a2 : Int) (D : td_D) : Option (Int × td_D) :=
  if a1 = 0 then
    if 0 ≤ a2 ∧ a2 < ((6 : Nat) : Int) then
      some (D 2 (Int.toNat a2), D)
    else none
  else if a1 = 1 then
    if 0 ≤ tv_w ((tv_w (6 * (tv_div a2 10))) + (tv_rem a2 10)) ∧ tv_w ((tv_w (6 * (tv_div a2 10))) + (tv_rem a2 10)) < ((30 : Nat) : Int) then
      some (D 4 (Int.toNat (tv_w ((tv_w (6 * (tv_div a2 10))) + (tv_rem a2 10)))), D)
    else none
  else if a1 = 2 then
    if 0 ≤ a2 ∧ a2 < ((6 : Nat) : Int) then
      some (D 3 (Int.toNat a2), D)
    else none
  else if a1 = 3 then
    if 0 ≤ a2 ∧ a2 < ((10 : Nat) : Int) then
      some (D 5 (Int.toNat a2), D)
    else none
  else if a1 = 4 then
    if 0 ≤ a2 ∧ a2 < ((10 : Nat) : Int) then
      some (D 6 (Int.toNat a2), D)
    else none
  else if a1 = 5 then
    if 0 ≤ a2 ∧ a2 < ((10 : Nat) : Int) then
      some (D 7 (Int.toNat a2), D)
    else none
  else
    if 0 ≤ tv_w (a1 - 6) ∧ tv_w (a1 - 6) < ((4 : Nat) : Int) then
      some (D 8 (Int.toNat (tv_w (a1 - 6))), D)
    else none
set_option maxHeartbeats 4000000 in
set_option maxRecDepth 20000 in
theorem S_X12_valueAt (l : Launch) {E : tv_E} (hE : tv_hE E) (d : Nat) (a1 : Int) (a2 : Int) (D : td_D) : td_msim l E (d + 0) mX12_valueAt g_m [tv_R 1, tv_I a1, tv_I a2] D (F_X12_valueAt a1 a2 D) := by
  refine td_meetL (ls := [tv_R 1, tv_I a1, tv_I a2]) rfl (Nat.le_of_ble_eq_true rfl) rfl ?_
  unfold F_X12_valueAt
  refine ts_iload_n (i := 1) rfl rfl dX12_valueAt_0 ?_
  refine td_ite (fun h1 => ?_) (fun h1 => ?_)
  · refine ts_tabIn (i := 0) (tgt := 40) (by omega) (by omega) rfl rfl dX12_valueAt_1 ?_
    refine ts_aload_n (i := 0) rfl rfl dX12_valueAt_40 ?_
    refine td_getR (q := 2) tl_X12_7 rfl ga_m_1 rfl dX12_valueAt_41 ?_
    refine ts_iload_n (i := 2) rfl rfl dX12_valueAt_44 ?_
    refine td_guard (fun h2 => ?_)
    refine td_ialdK ga_m_2 (gn_m_2 _) h2 dX12_valueAt_45 ?_
    exact td_iret rfl dX12_valueAt_46
  refine td_ite (fun h3 => ?_) (fun h3 => ?_)
  · refine ts_tabIn (i := 1) (tgt := 47) (by omega) (by omega) rfl rfl dX12_valueAt_1 ?_
    refine ts_aload_n (i := 0) rfl rfl dX12_valueAt_47 ?_
    refine td_getR (q := 4) tl_X12_16 rfl ga_m_1 rfl dX12_valueAt_48 ?_
    refine ts_bipush rfl dX12_valueAt_51 ?_
    refine ts_iload_n (i := 2) rfl rfl dX12_valueAt_53 ?_
    refine ts_bipush rfl dX12_valueAt_54 ?_
    refine td_idivK (by decide) dX12_valueAt_56 ?_
    refine ts_imul dX12_valueAt_57 ?_
    refine ts_iload_n (i := 2) rfl rfl dX12_valueAt_58 ?_
    refine ts_bipush rfl dX12_valueAt_59 ?_
    refine td_iremK (by decide) dX12_valueAt_61 ?_
    refine ts_iadd dX12_valueAt_62 ?_
    refine td_guard (fun h4 => ?_)
    refine td_ialdK ga_m_4 (gn_m_4 _) h4 dX12_valueAt_63 ?_
    exact td_iret rfl dX12_valueAt_64
  refine td_ite (fun h5 => ?_) (fun h5 => ?_)
  · refine ts_tabIn (i := 2) (tgt := 65) (by omega) (by omega) rfl rfl dX12_valueAt_1 ?_
    refine ts_aload_n (i := 0) rfl rfl dX12_valueAt_65 ?_
    refine td_getR (q := 3) tl_X12_13 rfl ga_m_1 rfl dX12_valueAt_66 ?_
    refine ts_iload_n (i := 2) rfl rfl dX12_valueAt_69 ?_
    refine td_guard (fun h6 => ?_)
    refine td_ialdK ga_m_3 (gn_m_3 _) h6 dX12_valueAt_70 ?_
    exact td_iret rfl dX12_valueAt_71
  refine td_ite (fun h7 => ?_) (fun h7 => ?_)
  · refine ts_tabIn (i := 3) (tgt := 72) (by omega) (by omega) rfl rfl dX12_valueAt_1 ?_
    refine ts_aload_n (i := 0) rfl rfl dX12_valueAt_72 ?_
    refine td_getR (q := 5) tl_X12_19 rfl ga_m_1 rfl dX12_valueAt_73 ?_
    refine ts_iload_n (i := 2) rfl rfl dX12_valueAt_76 ?_
    refine td_guard (fun h8 => ?_)
    refine td_ialdK ga_m_5 (gn_m_5 _) h8 dX12_valueAt_77 ?_
    exact td_iret rfl dX12_valueAt_78
  refine td_ite (fun h9 => ?_) (fun h9 => ?_)
  · refine ts_tabIn (i := 4) (tgt := 79) (by omega) (by omega) rfl rfl dX12_valueAt_1 ?_
    refine ts_aload_n (i := 0) rfl rfl dX12_valueAt_79 ?_
    refine td_getR (q := 6) tl_X12_22 rfl ga_m_1 rfl dX12_valueAt_80 ?_
    refine ts_iload_n (i := 2) rfl rfl dX12_valueAt_83 ?_
    refine td_guard (fun h10 => ?_)
    refine td_ialdK ga_m_6 (gn_m_6 _) h10 dX12_valueAt_84 ?_
    exact td_iret rfl dX12_valueAt_85
  refine td_ite (fun h11 => ?_) (fun h11 => ?_)
  · refine ts_tabIn (i := 5) (tgt := 86) (by omega) (by omega) rfl rfl dX12_valueAt_1 ?_
    refine ts_aload_n (i := 0) rfl rfl dX12_valueAt_86 ?_
    refine td_getR (q := 7) tl_X12_25 rfl ga_m_1 rfl dX12_valueAt_87 ?_
    refine ts_iload_n (i := 2) rfl rfl dX12_valueAt_90 ?_
    refine td_guard (fun h12 => ?_)
    refine td_ialdK ga_m_7 (gn_m_7 _) h12 dX12_valueAt_91 ?_
    exact td_iret rfl dX12_valueAt_92
  refine ts_tabOut (tgt := 93) (by omega) rfl dX12_valueAt_1 ?_
  refine ts_aload_n (i := 0) rfl rfl dX12_valueAt_93 ?_
  refine td_getR (q := 8) tl_X12_28 rfl ga_m_1 rfl dX12_valueAt_94 ?_
  refine ts_iload_n (i := 1) rfl rfl dX12_valueAt_97 ?_
  refine ts_bipush rfl dX12_valueAt_98 ?_
  refine ts_isub dX12_valueAt_100 ?_
  refine td_guard (fun h13 => ?_)
  refine td_ialdK ga_m_8 (gn_m_8 _) h13 dX12_valueAt_101 ?_
  exact td_iret rfl dX12_valueAt_102
def F_X12_lays (a1 : Int) (a2 : Int) (a3 : Int) (D : td_D) : Option (Int × td_D) :=
  if a1 = 0 then
    if 0 ≤ a2 ∧ a2 < ((6 : Nat) : Int) then
      td_l (td_upd D 2 (Int.toNat a2) a3) fun D3 =>
      some (0, D3)
    else none
  else if a1 = 1 then
    if 0 ≤ tv_w ((tv_w (6 * (tv_div a2 10))) + (tv_rem a2 10)) ∧ tv_w ((tv_w (6 * (tv_div a2 10))) + (tv_rem a2 10)) < ((30 : Nat) : Int) then
      td_l (td_upd D 4 (Int.toNat (tv_w ((tv_w (6 * (tv_div a2 10))) + (tv_rem a2 10)))) a3) fun D6 =>
      some (0, D6)
    else none
  else if a1 = 2 then
    if 0 ≤ a2 ∧ a2 < ((6 : Nat) : Int) then
      td_l (td_upd D 3 (Int.toNat a2) a3) fun D9 =>
      some (0, D9)
    else none
  else if a1 = 3 then
    if 0 ≤ a2 ∧ a2 < ((10 : Nat) : Int) then
      td_l (td_upd D 5 (Int.toNat a2) a3) fun D12 =>
      some (0, D12)
    else none
  else if a1 = 4 then
    if 0 ≤ a2 ∧ a2 < ((10 : Nat) : Int) then
      td_l (td_upd D 6 (Int.toNat a2) a3) fun D15 =>
      some (0, D15)
    else none
  else if a1 = 5 then
    if 0 ≤ a2 ∧ a2 < ((10 : Nat) : Int) then
      td_l (td_upd D 7 (Int.toNat a2) a3) fun D18 =>
      some (0, D18)
    else none
  else
    if 0 ≤ tv_w (a1 - 6) ∧ tv_w (a1 - 6) < ((4 : Nat) : Int) then
      td_l (td_upd D 8 (Int.toNat (tv_w (a1 - 6))) a3) fun D20 =>
      some (0, D20)
    else none
set_option maxHeartbeats 4000000 in
set_option maxRecDepth 20000 in
theorem S_X12_lays (l : Launch) {E : tv_E} (hE : tv_hE E) (d : Nat) (a1 : Int) (a2 : Int) (a3 : Int) (D : td_D) : td_msim l E (d + 0) mX12_lays g_m [tv_R 1, tv_I a1, tv_I a2, tv_I a3] D (F_X12_lays a1 a2 a3 D) := by
  refine td_meetL (ls := [tv_R 1, tv_I a1, tv_I a2, tv_I a3]) rfl (Nat.le_of_ble_eq_true rfl) rfl ?_
  unfold F_X12_lays
  refine ts_iload_n (i := 1) rfl rfl dX12_lays_0 ?_
  refine td_ite (fun h1 => ?_) (fun h1 => ?_)
  · refine ts_tabIn (i := 0) (tgt := 40) (by omega) (by omega) rfl rfl dX12_lays_1 ?_
    refine ts_aload_n (i := 0) rfl rfl dX12_lays_40 ?_
    refine td_getR (q := 2) tl_X12_7 rfl ga_m_1 rfl dX12_lays_41 ?_
    refine ts_iload_n (i := 2) rfl rfl dX12_lays_44 ?_
    refine ts_iload_n (i := 3) rfl rfl dX12_lays_45 ?_
    refine td_guard (fun h2 => ?_)
    refine td_iastK ga_m_2 (gn_m_2 _) h2 dX12_lays_46 ?_
    refine td_let (fun D3 => ?_)
    refine ts_goto (tgt := 121) rfl dX12_lays_47 ?_
    exact td_vret rfl dX12_lays_121
  refine td_ite (fun h4 => ?_) (fun h4 => ?_)
  · refine ts_tabIn (i := 1) (tgt := 50) (by omega) (by omega) rfl rfl dX12_lays_1 ?_
    refine ts_aload_n (i := 0) rfl rfl dX12_lays_50 ?_
    refine td_getR (q := 4) tl_X12_16 rfl ga_m_1 rfl dX12_lays_51 ?_
    refine ts_bipush rfl dX12_lays_54 ?_
    refine ts_iload_n (i := 2) rfl rfl dX12_lays_56 ?_
    refine ts_bipush rfl dX12_lays_57 ?_
    refine td_idivK (by decide) dX12_lays_59 ?_
    refine ts_imul dX12_lays_60 ?_
    refine ts_iload_n (i := 2) rfl rfl dX12_lays_61 ?_
    refine ts_bipush rfl dX12_lays_62 ?_
    refine td_iremK (by decide) dX12_lays_64 ?_
    refine ts_iadd dX12_lays_65 ?_
    refine ts_iload_n (i := 3) rfl rfl dX12_lays_66 ?_
    refine td_guard (fun h5 => ?_)
    refine td_iastK ga_m_4 (gn_m_4 _) h5 dX12_lays_67 ?_
    refine td_let (fun D6 => ?_)
    refine ts_goto (tgt := 121) rfl dX12_lays_68 ?_
    exact td_vret rfl dX12_lays_121
  refine td_ite (fun h7 => ?_) (fun h7 => ?_)
  · refine ts_tabIn (i := 2) (tgt := 71) (by omega) (by omega) rfl rfl dX12_lays_1 ?_
    refine ts_aload_n (i := 0) rfl rfl dX12_lays_71 ?_
    refine td_getR (q := 3) tl_X12_13 rfl ga_m_1 rfl dX12_lays_72 ?_
    refine ts_iload_n (i := 2) rfl rfl dX12_lays_75 ?_
    refine ts_iload_n (i := 3) rfl rfl dX12_lays_76 ?_
    refine td_guard (fun h8 => ?_)
    refine td_iastK ga_m_3 (gn_m_3 _) h8 dX12_lays_77 ?_
    refine td_let (fun D9 => ?_)
    refine ts_goto (tgt := 121) rfl dX12_lays_78 ?_
    exact td_vret rfl dX12_lays_121
  refine td_ite (fun h10 => ?_) (fun h10 => ?_)
  · refine ts_tabIn (i := 3) (tgt := 81) (by omega) (by omega) rfl rfl dX12_lays_1 ?_
    refine ts_aload_n (i := 0) rfl rfl dX12_lays_81 ?_
    refine td_getR (q := 5) tl_X12_19 rfl ga_m_1 rfl dX12_lays_82 ?_
    refine ts_iload_n (i := 2) rfl rfl dX12_lays_85 ?_
    refine ts_iload_n (i := 3) rfl rfl dX12_lays_86 ?_
    refine td_guard (fun h11 => ?_)
    refine td_iastK ga_m_5 (gn_m_5 _) h11 dX12_lays_87 ?_
    refine td_let (fun D12 => ?_)
    refine ts_goto (tgt := 121) rfl dX12_lays_88 ?_
    exact td_vret rfl dX12_lays_121
  refine td_ite (fun h13 => ?_) (fun h13 => ?_)
  · refine ts_tabIn (i := 4) (tgt := 91) (by omega) (by omega) rfl rfl dX12_lays_1 ?_
    refine ts_aload_n (i := 0) rfl rfl dX12_lays_91 ?_
    refine td_getR (q := 6) tl_X12_22 rfl ga_m_1 rfl dX12_lays_92 ?_
    refine ts_iload_n (i := 2) rfl rfl dX12_lays_95 ?_
    refine ts_iload_n (i := 3) rfl rfl dX12_lays_96 ?_
    refine td_guard (fun h14 => ?_)
    refine td_iastK ga_m_6 (gn_m_6 _) h14 dX12_lays_97 ?_
    refine td_let (fun D15 => ?_)
    refine ts_goto (tgt := 121) rfl dX12_lays_98 ?_
    exact td_vret rfl dX12_lays_121
  refine td_ite (fun h16 => ?_) (fun h16 => ?_)
  · refine ts_tabIn (i := 5) (tgt := 101) (by omega) (by omega) rfl rfl dX12_lays_1 ?_
    refine ts_aload_n (i := 0) rfl rfl dX12_lays_101 ?_
    refine td_getR (q := 7) tl_X12_25 rfl ga_m_1 rfl dX12_lays_102 ?_
    refine ts_iload_n (i := 2) rfl rfl dX12_lays_105 ?_
    refine ts_iload_n (i := 3) rfl rfl dX12_lays_106 ?_
    refine td_guard (fun h17 => ?_)
    refine td_iastK ga_m_7 (gn_m_7 _) h17 dX12_lays_107 ?_
    refine td_let (fun D18 => ?_)
    refine ts_goto (tgt := 121) rfl dX12_lays_108 ?_
    exact td_vret rfl dX12_lays_121
  refine ts_tabOut (tgt := 111) (by omega) rfl dX12_lays_1 ?_
  refine ts_aload_n (i := 0) rfl rfl dX12_lays_111 ?_
  refine td_getR (q := 8) tl_X12_28 rfl ga_m_1 rfl dX12_lays_112 ?_
  refine ts_iload_n (i := 1) rfl rfl dX12_lays_115 ?_
  refine ts_bipush rfl dX12_lays_116 ?_
  refine ts_isub dX12_lays_118 ?_
  refine ts_iload_n (i := 3) rfl rfl dX12_lays_119 ?_
  refine td_guard (fun h19 => ?_)
  refine td_iastK ga_m_8 (gn_m_8 _) h19 dX12_lays_120 ?_
  refine td_let (fun D20 => ?_)
  exact td_vret rfl dX12_lays_121
def F_X12_changes_121 (v1 : Int) (v2 : Int) (v3 : Int) (v4 : Int) (D : td_D) : Option (Int × td_D) :=
  if 0 ≤ D 1 11 ∧ D 1 11 < ((40 : Nat) : Int) then
    td_l (td_upd D 9 (Int.toNat (D 1 11)) v1) fun D2 =>
    if 0 ≤ D2 1 11 ∧ D2 1 11 < ((40 : Nat) : Int) then
      td_l (td_upd D2 10 (Int.toNat (D2 1 11)) v2) fun D4 =>
      if 0 ≤ D4 1 11 ∧ D4 1 11 < ((40 : Nat) : Int) then
        td_l (td_upd D4 11 (Int.toNat (D4 1 11)) v4) fun D6 =>
        if 0 ≤ D6 1 11 ∧ D6 1 11 < ((40 : Nat) : Int) then
          td_l (td_upd D6 12 (Int.toNat (D6 1 11)) v3) fun D8 =>
          td_l (td_upd D8 1 11 (tv_w ((D8 1 11) + 1))) fun D9 =>
          td_b (F_X12_lays v1 v2 v3 D9) fun _ D11 =>
          some (v4, D11)
        else none
      else none
    else none
  else none
set_option maxHeartbeats 4000000 in
set_option maxRecDepth 20000 in
theorem S_X12_changes_121 {l : Launch} {E : tv_E} (hE : tv_hE E) (d : Nat) (v1 : Int) (v2 : Int) (v3 : Int) (v4 : Int) (D : td_D) : td_sim l E (d + 1) mX12_changes g_m 121 [tv_R 1, tv_I v1, tv_I v2, tv_I v3, tv_I v4, tv_U] [] D (F_X12_changes_121 v1 v2 v3 v4 D) := by
  unfold F_X12_changes_121
  refine ts_aload_n (i := 0) rfl rfl dX12_changes_121 ?_
  refine td_getR (q := 9) tl_X12_31 rfl ga_m_1 rfl dX12_changes_122 ?_
  refine ts_aload_n (i := 0) rfl rfl dX12_changes_125 ?_
  refine td_getI tl_X12_178 rfl ga_m_1 rfl dX12_changes_126 ?_
  refine ts_iload_n (i := 1) rfl rfl dX12_changes_129 ?_
  refine td_guard (fun h1 => ?_)
  refine td_iastK ga_m_9 (gn_m_9 _) h1 dX12_changes_130 ?_
  refine td_let (fun D2 => ?_)
  refine ts_aload_n (i := 0) rfl rfl dX12_changes_131 ?_
  refine td_getR (q := 10) tl_X12_34 rfl ga_m_1 rfl dX12_changes_132 ?_
  refine ts_aload_n (i := 0) rfl rfl dX12_changes_135 ?_
  refine td_getI tl_X12_178 rfl ga_m_1 rfl dX12_changes_136 ?_
  refine ts_iload_n (i := 2) rfl rfl dX12_changes_139 ?_
  refine td_guard (fun h3 => ?_)
  refine td_iastK ga_m_10 (gn_m_10 _) h3 dX12_changes_140 ?_
  refine td_let (fun D4 => ?_)
  refine ts_aload_n (i := 0) rfl rfl dX12_changes_141 ?_
  refine td_getR (q := 11) tl_X12_37 rfl ga_m_1 rfl dX12_changes_142 ?_
  refine ts_aload_n (i := 0) rfl rfl dX12_changes_145 ?_
  refine td_getI tl_X12_178 rfl ga_m_1 rfl dX12_changes_146 ?_
  refine ts_iload rfl dX12_changes_149 ?_
  refine td_guard (fun h5 => ?_)
  refine td_iastK ga_m_11 (gn_m_11 _) h5 dX12_changes_151 ?_
  refine td_let (fun D6 => ?_)
  refine ts_aload_n (i := 0) rfl rfl dX12_changes_152 ?_
  refine td_getR (q := 12) tl_X12_40 rfl ga_m_1 rfl dX12_changes_153 ?_
  refine ts_aload_n (i := 0) rfl rfl dX12_changes_156 ?_
  refine td_getI tl_X12_178 rfl ga_m_1 rfl dX12_changes_157 ?_
  refine ts_iload_n (i := 3) rfl rfl dX12_changes_160 ?_
  refine td_guard (fun h7 => ?_)
  refine td_iastK ga_m_12 (gn_m_12 _) h7 dX12_changes_161 ?_
  refine td_let (fun D8 => ?_)
  refine ts_aload_n (i := 0) rfl rfl dX12_changes_162 ?_
  refine ts_dupR dX12_changes_163 ?_
  refine td_getI tl_X12_178 rfl ga_m_1 rfl dX12_changes_164 ?_
  refine ts_iconst rfl dX12_changes_167 ?_
  refine ts_iadd dX12_changes_168 ?_
  refine td_putI tf_X12_178 (by intro h; cases h) rfl ga_m_1 rfl dX12_changes_169 ?_
  refine td_let (fun D9 => ?_)
  refine ts_aload_n (i := 0) rfl rfl dX12_changes_172 ?_
  refine ts_iload_n (i := 1) rfl rfl dX12_changes_173 ?_
  refine ts_iload_n (i := 2) rfl rfl dX12_changes_174 ?_
  refine ts_iload_n (i := 3) rfl rfl dX12_changes_175 ?_
  refine tq_callV (y2 := mX12_lays) [tv_I v1, tv_I v2, tv_I v3] [] 1 (st' := fun _ => []) tw_X12_lays tx_X12_lays tw_c12 ga_m_1 tl_X12_181 rfl rfl rfl rfl (fun _ => rfl) dX12_changes_176 (S_X12_lays l hE _ v1 v2 v3 D9) (fun r10 D11 => ?_)
  refine ts_iload rfl dX12_changes_179 ?_
  exact td_iret rfl dX12_changes_181
def F_X12_changes_34 : Nat → Int → Int → Int → Int → Int → td_D → Option (Int × td_D)
  | 0, _, _, _, _, _, _ => none
  | n + 1, v1, v2, v3, v4, v5, D =>
    if 40 ≤ v5 then
      td_l (td_upd D 1 11 (tv_w ((D 1 11) - 1))) fun D12 =>
      F_X12_changes_121 v1 v2 v3 v4 D12
    else
      if 0 ≤ v5 ∧ v5 < ((40 : Nat) : Int) then
        if 0 ≤ tv_w (v5 - 1) ∧ tv_w (v5 - 1) < ((40 : Nat) : Int) then
          td_l (td_upd D 9 (Int.toNat (tv_w (v5 - 1))) (D 9 (Int.toNat v5))) fun D15 =>
          td_l (td_upd D15 10 (Int.toNat (tv_w (v5 - 1))) (D15 10 (Int.toNat v5))) fun D16 =>
          td_l (td_upd D16 11 (Int.toNat (tv_w (v5 - 1))) (D16 11 (Int.toNat v5))) fun D17 =>
          td_l (td_upd D17 12 (Int.toNat (tv_w (v5 - 1))) (D17 12 (Int.toNat v5))) fun D18 =>
          F_X12_changes_34 n v1 v2 v3 v4 (tv_w (v5 + 1)) D18
        else none
      else none
set_option maxHeartbeats 4000000 in
set_option maxRecDepth 20000 in
theorem S_X12_changes_34 {l : Launch} {E : tv_E} (hE : tv_hE E) (d : Nat) : ∀ (n : Nat) (v1 : Int) (v2 : Int) (v3 : Int) (v4 : Int) (v5 : Int) (D : td_D), td_sim l E (d + 1) mX12_changes g_m 34 [tv_R 1, tv_I v1, tv_I v2, tv_I v3, tv_I v4, tv_I v5] [] D (F_X12_changes_34 n v1 v2 v3 v4 v5 D) := by
  intro n
  induction n with
  | zero => intros; exact tv_none
  | succ n ih =>
    intro v1 v2 v3 v4 v5 D
    show td_sim _ _ _ _ _ _ _ _ _ (F_X12_changes_34 (n + 1) v1 v2 v3 v4 v5 D)
    unfold F_X12_changes_34
    refine ts_iload rfl dX12_changes_34 ?_
    refine ts_bipush rfl dX12_changes_36 ?_
    refine td_icmp_ge (tgt := 111) rfl dX12_changes_38 ?_ ?_
    · refine ts_aload_n (i := 0) rfl rfl dX12_changes_111 ?_
      refine ts_dupR dX12_changes_112 ?_
      refine td_getI tl_X12_178 rfl ga_m_1 rfl dX12_changes_113 ?_
      refine ts_iconst rfl dX12_changes_116 ?_
      refine ts_isub dX12_changes_117 ?_
      refine td_putI tf_X12_178 (by intro h; cases h) rfl ga_m_1 rfl dX12_changes_118 ?_
      refine td_let (fun D12 => ?_)
      refine tv_weak (ls' := [tv_R 1, tv_I v1, tv_I v2, tv_I v3, tv_I v4, tv_U]) ⟨Or.inr rfl, Or.inr rfl, Or.inr rfl, Or.inr rfl, Or.inr rfl, Or.inl rfl, trivial⟩ ?_
      exact S_X12_changes_121 hE d v1 v2 v3 v4 D12
    · refine ts_aload_n (i := 0) rfl rfl dX12_changes_41 ?_
      refine td_getR (q := 9) tl_X12_31 rfl ga_m_1 rfl dX12_changes_42 ?_
      refine ts_iload rfl dX12_changes_45 ?_
      refine ts_iconst rfl dX12_changes_47 ?_
      refine ts_isub dX12_changes_48 ?_
      refine ts_aload_n (i := 0) rfl rfl dX12_changes_49 ?_
      refine td_getR (q := 9) tl_X12_31 rfl ga_m_1 rfl dX12_changes_50 ?_
      refine ts_iload rfl dX12_changes_53 ?_
      refine td_guard (fun h13 => ?_)
      refine td_ialdK ga_m_9 (gn_m_9 _) h13 dX12_changes_55 ?_
      refine td_guard (fun h14 => ?_)
      refine td_iastK ga_m_9 (gn_m_9 _) h14 dX12_changes_56 ?_
      refine td_let (fun D15 => ?_)
      refine ts_aload_n (i := 0) rfl rfl dX12_changes_57 ?_
      refine td_getR (q := 10) tl_X12_34 rfl ga_m_1 rfl dX12_changes_58 ?_
      refine ts_iload rfl dX12_changes_61 ?_
      refine ts_iconst rfl dX12_changes_63 ?_
      refine ts_isub dX12_changes_64 ?_
      refine ts_aload_n (i := 0) rfl rfl dX12_changes_65 ?_
      refine td_getR (q := 10) tl_X12_34 rfl ga_m_1 rfl dX12_changes_66 ?_
      refine ts_iload rfl dX12_changes_69 ?_
      refine td_ialdK ga_m_10 (gn_m_10 _) h13 dX12_changes_71 ?_
      refine td_iastK ga_m_10 (gn_m_10 _) h14 dX12_changes_72 ?_
      refine td_let (fun D16 => ?_)
      refine ts_aload_n (i := 0) rfl rfl dX12_changes_73 ?_
      refine td_getR (q := 11) tl_X12_37 rfl ga_m_1 rfl dX12_changes_74 ?_
      refine ts_iload rfl dX12_changes_77 ?_
      refine ts_iconst rfl dX12_changes_79 ?_
      refine ts_isub dX12_changes_80 ?_
      refine ts_aload_n (i := 0) rfl rfl dX12_changes_81 ?_
      refine td_getR (q := 11) tl_X12_37 rfl ga_m_1 rfl dX12_changes_82 ?_
      refine ts_iload rfl dX12_changes_85 ?_
      refine td_ialdK ga_m_11 (gn_m_11 _) h13 dX12_changes_87 ?_
      refine td_iastK ga_m_11 (gn_m_11 _) h14 dX12_changes_88 ?_
      refine td_let (fun D17 => ?_)
      refine ts_aload_n (i := 0) rfl rfl dX12_changes_89 ?_
      refine td_getR (q := 12) tl_X12_40 rfl ga_m_1 rfl dX12_changes_90 ?_
      refine ts_iload rfl dX12_changes_93 ?_
      refine ts_iconst rfl dX12_changes_95 ?_
      refine ts_isub dX12_changes_96 ?_
      refine ts_aload_n (i := 0) rfl rfl dX12_changes_97 ?_
      refine td_getR (q := 12) tl_X12_40 rfl ga_m_1 rfl dX12_changes_98 ?_
      refine ts_iload rfl dX12_changes_101 ?_
      refine td_ialdK ga_m_12 (gn_m_12 _) h13 dX12_changes_103 ?_
      refine td_iastK ga_m_12 (gn_m_12 _) h14 dX12_changes_104 ?_
      refine td_let (fun D18 => ?_)
      refine tq_iinc [tv_R 1, tv_I v1, tv_I v2, tv_I v3, tv_I v4, tv_I (tv_w (v5 + 1))] rfl rfl rfl dX12_changes_105 ?_
      refine ts_goto (tgt := 34) rfl dX12_changes_108 ?_
      exact ih v1 v2 v3 v4 (tv_w (v5 + 1)) D18
def F_X12_changes (a1 : Int) (a2 : Int) (a3 : Int) (D : td_D) : Option (Int × td_D) :=
  td_b (F_X12_valueAt a1 a2 D) fun r19 D20 =>
  if r19 = a3 then
    some (r19, D20)
  else
    td_l (td_upd D20 1 12 0) fun D21 =>
    if D21 1 11 = 40 then
      F_X12_changes_34 tf_N a1 a2 a3 r19 1 D21
    else
      F_X12_changes_121 a1 a2 a3 r19 D21
set_option maxHeartbeats 4000000 in
set_option maxRecDepth 20000 in
theorem S_X12_changes (l : Launch) {E : tv_E} (hE : tv_hE E) (d : Nat) (a1 : Int) (a2 : Int) (a3 : Int) (D : td_D) : td_msim l E (d + 1) mX12_changes g_m [tv_R 1, tv_I a1, tv_I a2, tv_I a3] D (F_X12_changes a1 a2 a3 D) := by
  refine td_meetL (ls := [tv_R 1, tv_I a1, tv_I a2, tv_I a3, tv_U, tv_U]) rfl (Nat.le_of_ble_eq_true rfl) rfl ?_
  unfold F_X12_changes
  refine ts_aload_n (i := 0) rfl rfl dX12_changes_0 ?_
  refine ts_iload_n (i := 1) rfl rfl dX12_changes_1 ?_
  refine ts_iload_n (i := 2) rfl rfl dX12_changes_2 ?_
  refine tq_callV (y2 := mX12_valueAt) [tv_I a1, tv_I a2] [] 1 (st' := fun r19 => [tv_I r19]) tw_X12_valueAt tx_X12_valueAt tw_c12 ga_m_1 tl_X12_172 rfl rfl rfl rfl (fun _ => rfl) dX12_changes_3 (S_X12_valueAt l hE _ a1 a2 D) (fun r19 D20 => ?_)
  refine tq_istore [tv_R 1, tv_I a1, tv_I a2, tv_I a3, tv_I r19, tv_U] (Nat.le_of_ble_eq_true rfl) rfl rfl dX12_changes_6 ?_
  refine ts_iload rfl dX12_changes_8 ?_
  refine ts_iload_n (i := 3) rfl rfl dX12_changes_10 ?_
  refine td_icmp_ne (tgt := 17) rfl dX12_changes_11 ?_ ?_
  · refine ts_iload rfl dX12_changes_14 ?_
    exact td_iret rfl dX12_changes_16
  · refine ts_aload_n (i := 0) rfl rfl dX12_changes_17 ?_
    refine ts_iconst rfl dX12_changes_18 ?_
    refine td_putI tf_X12_175 (by intro h; cases h) rfl ga_m_1 rfl dX12_changes_19 ?_
    refine td_let (fun D21 => ?_)
    refine ts_aload_n (i := 0) rfl rfl dX12_changes_22 ?_
    refine td_getI tl_X12_178 rfl ga_m_1 rfl dX12_changes_23 ?_
    refine ts_bipush rfl dX12_changes_26 ?_
    refine td_icmp_ne (tgt := 121) rfl dX12_changes_28 ?_ ?_
    · refine ts_iconst rfl dX12_changes_31 ?_
      refine tq_istore [tv_R 1, tv_I a1, tv_I a2, tv_I a3, tv_I r19, tv_I 1] (Nat.le_of_ble_eq_true rfl) rfl rfl dX12_changes_32 ?_
      exact S_X12_changes_34 hE d tf_N a1 a2 a3 r19 1 D21
    · exact S_X12_changes_121 hE d a1 a2 a3 r19 D21
def F_X12_undo (D : td_D) : Option (Int × td_D) :=
  if D 1 11 = 0 then
    some ((-5), D)
  else
    td_l (td_upd D 1 11 (tv_w ((D 1 11) - 1))) fun D1 =>
    td_l (td_upd D1 1 12 (tv_w ((D1 1 12) + 1))) fun D2 =>
    if 0 ≤ D2 1 11 ∧ D2 1 11 < ((40 : Nat) : Int) then
      td_b (F_X12_lays (D2 9 (Int.toNat (D2 1 11))) (D2 10 (Int.toNat (D2 1 11))) (D2 11 (Int.toNat (D2 1 11))) D2) fun _ D5 =>
      some (D5 1 11, D5)
    else none
set_option maxHeartbeats 4000000 in
set_option maxRecDepth 20000 in
theorem S_X12_undo (l : Launch) {E : tv_E} (hE : tv_hE E) (d : Nat) (D : td_D) : td_msim l E (d + 1) mX12_undo g_m [tv_R 1] D (F_X12_undo D) := by
  refine td_meetL (ls := [tv_R 1]) rfl (Nat.le_of_ble_eq_true rfl) rfl ?_
  unfold F_X12_undo
  refine ts_aload_n (i := 0) rfl rfl dX12_undo_0 ?_
  refine td_getI tl_X12_178 rfl ga_m_1 rfl dX12_undo_1 ?_
  refine td_if_ne (tgt := 10) rfl dX12_undo_4 ?_ ?_
  · refine ts_bipush rfl dX12_undo_7 ?_
    exact td_iret rfl dX12_undo_9
  · refine ts_aload_n (i := 0) rfl rfl dX12_undo_10 ?_
    refine ts_dupR dX12_undo_11 ?_
    refine td_getI tl_X12_178 rfl ga_m_1 rfl dX12_undo_12 ?_
    refine ts_iconst rfl dX12_undo_15 ?_
    refine ts_isub dX12_undo_16 ?_
    refine td_putI tf_X12_178 (by intro h; cases h) rfl ga_m_1 rfl dX12_undo_17 ?_
    refine td_let (fun D1 => ?_)
    refine ts_aload_n (i := 0) rfl rfl dX12_undo_20 ?_
    refine ts_dupR dX12_undo_21 ?_
    refine td_getI tl_X12_175 rfl ga_m_1 rfl dX12_undo_22 ?_
    refine ts_iconst rfl dX12_undo_25 ?_
    refine ts_iadd dX12_undo_26 ?_
    refine td_putI tf_X12_175 (by intro h; cases h) rfl ga_m_1 rfl dX12_undo_27 ?_
    refine td_let (fun D2 => ?_)
    refine ts_aload_n (i := 0) rfl rfl dX12_undo_30 ?_
    refine ts_aload_n (i := 0) rfl rfl dX12_undo_31 ?_
    refine td_getR (q := 9) tl_X12_31 rfl ga_m_1 rfl dX12_undo_32 ?_
    refine ts_aload_n (i := 0) rfl rfl dX12_undo_35 ?_
    refine td_getI tl_X12_178 rfl ga_m_1 rfl dX12_undo_36 ?_
    refine td_guard (fun h3 => ?_)
    refine td_ialdK ga_m_9 (gn_m_9 _) h3 dX12_undo_39 ?_
    refine ts_aload_n (i := 0) rfl rfl dX12_undo_40 ?_
    refine td_getR (q := 10) tl_X12_34 rfl ga_m_1 rfl dX12_undo_41 ?_
    refine ts_aload_n (i := 0) rfl rfl dX12_undo_44 ?_
    refine td_getI tl_X12_178 rfl ga_m_1 rfl dX12_undo_45 ?_
    refine td_ialdK ga_m_10 (gn_m_10 _) h3 dX12_undo_48 ?_
    refine ts_aload_n (i := 0) rfl rfl dX12_undo_49 ?_
    refine td_getR (q := 11) tl_X12_37 rfl ga_m_1 rfl dX12_undo_50 ?_
    refine ts_aload_n (i := 0) rfl rfl dX12_undo_53 ?_
    refine td_getI tl_X12_178 rfl ga_m_1 rfl dX12_undo_54 ?_
    refine td_ialdK ga_m_11 (gn_m_11 _) h3 dX12_undo_57 ?_
    refine tq_callV (y2 := mX12_lays) [tv_I (D2 9 (Int.toNat (D2 1 11))), tv_I (D2 10 (Int.toNat (D2 1 11))), tv_I (D2 11 (Int.toNat (D2 1 11)))] [] 1 (st' := fun _ => []) tw_X12_lays tx_X12_lays tw_c12 ga_m_1 tl_X12_181 rfl rfl rfl rfl (fun _ => rfl) dX12_undo_58 (S_X12_lays l hE _ (D2 9 (Int.toNat (D2 1 11))) (D2 10 (Int.toNat (D2 1 11))) (D2 11 (Int.toNat (D2 1 11))) D2) (fun r4 D5 => ?_)
    refine ts_aload_n (i := 0) rfl rfl dX12_undo_61 ?_
    refine td_getI tl_X12_178 rfl ga_m_1 rfl dX12_undo_62 ?_
    exact td_iret rfl dX12_undo_65
def F_X12_redo (D : td_D) : Option (Int × td_D) :=
  if D 1 12 = 0 then
    some ((-5), D)
  else
    if 0 ≤ D 1 11 ∧ D 1 11 < ((40 : Nat) : Int) then
      td_b (F_X12_lays (D 9 (Int.toNat (D 1 11))) (D 10 (Int.toNat (D 1 11))) (D 12 (Int.toNat (D 1 11))) D) fun _ D3 =>
      td_l (td_upd D3 1 11 (tv_w ((D3 1 11) + 1))) fun D4 =>
      td_l (td_upd D4 1 12 (tv_w ((D4 1 12) - 1))) fun D5 =>
      some (D5 1 12, D5)
    else none
set_option maxHeartbeats 4000000 in
set_option maxRecDepth 20000 in
theorem S_X12_redo (l : Launch) {E : tv_E} (hE : tv_hE E) (d : Nat) (D : td_D) : td_msim l E (d + 1) mX12_redo g_m [tv_R 1] D (F_X12_redo D) := by
  refine td_meetL (ls := [tv_R 1]) rfl (Nat.le_of_ble_eq_true rfl) rfl ?_
  unfold F_X12_redo
  refine ts_aload_n (i := 0) rfl rfl dX12_redo_0 ?_
  refine td_getI tl_X12_175 rfl ga_m_1 rfl dX12_redo_1 ?_
  refine td_if_ne (tgt := 10) rfl dX12_redo_4 ?_ ?_
  · refine ts_bipush rfl dX12_redo_7 ?_
    exact td_iret rfl dX12_redo_9
  · refine ts_aload_n (i := 0) rfl rfl dX12_redo_10 ?_
    refine ts_aload_n (i := 0) rfl rfl dX12_redo_11 ?_
    refine td_getR (q := 9) tl_X12_31 rfl ga_m_1 rfl dX12_redo_12 ?_
    refine ts_aload_n (i := 0) rfl rfl dX12_redo_15 ?_
    refine td_getI tl_X12_178 rfl ga_m_1 rfl dX12_redo_16 ?_
    refine td_guard (fun h1 => ?_)
    refine td_ialdK ga_m_9 (gn_m_9 _) h1 dX12_redo_19 ?_
    refine ts_aload_n (i := 0) rfl rfl dX12_redo_20 ?_
    refine td_getR (q := 10) tl_X12_34 rfl ga_m_1 rfl dX12_redo_21 ?_
    refine ts_aload_n (i := 0) rfl rfl dX12_redo_24 ?_
    refine td_getI tl_X12_178 rfl ga_m_1 rfl dX12_redo_25 ?_
    refine td_ialdK ga_m_10 (gn_m_10 _) h1 dX12_redo_28 ?_
    refine ts_aload_n (i := 0) rfl rfl dX12_redo_29 ?_
    refine td_getR (q := 12) tl_X12_40 rfl ga_m_1 rfl dX12_redo_30 ?_
    refine ts_aload_n (i := 0) rfl rfl dX12_redo_33 ?_
    refine td_getI tl_X12_178 rfl ga_m_1 rfl dX12_redo_34 ?_
    refine td_ialdK ga_m_12 (gn_m_12 _) h1 dX12_redo_37 ?_
    refine tq_callV (y2 := mX12_lays) [tv_I (D 9 (Int.toNat (D 1 11))), tv_I (D 10 (Int.toNat (D 1 11))), tv_I (D 12 (Int.toNat (D 1 11)))] [] 1 (st' := fun _ => []) tw_X12_lays tx_X12_lays tw_c12 ga_m_1 tl_X12_181 rfl rfl rfl rfl (fun _ => rfl) dX12_redo_38 (S_X12_lays l hE _ (D 9 (Int.toNat (D 1 11))) (D 10 (Int.toNat (D 1 11))) (D 12 (Int.toNat (D 1 11))) D) (fun r2 D3 => ?_)
    refine ts_aload_n (i := 0) rfl rfl dX12_redo_41 ?_
    refine ts_dupR dX12_redo_42 ?_
    refine td_getI tl_X12_178 rfl ga_m_1 rfl dX12_redo_43 ?_
    refine ts_iconst rfl dX12_redo_46 ?_
    refine ts_iadd dX12_redo_47 ?_
    refine td_putI tf_X12_178 (by intro h; cases h) rfl ga_m_1 rfl dX12_redo_48 ?_
    refine td_let (fun D4 => ?_)
    refine ts_aload_n (i := 0) rfl rfl dX12_redo_51 ?_
    refine ts_dupR dX12_redo_52 ?_
    refine td_getI tl_X12_175 rfl ga_m_1 rfl dX12_redo_53 ?_
    refine ts_iconst rfl dX12_redo_56 ?_
    refine ts_isub dX12_redo_57 ?_
    refine td_putI tf_X12_175 (by intro h; cases h) rfl ga_m_1 rfl dX12_redo_58 ?_
    refine td_let (fun D5 => ?_)
    refine ts_aload_n (i := 0) rfl rfl dX12_redo_61 ?_
    refine td_getI tl_X12_175 rfl ga_m_1 rfl dX12_redo_62 ?_
    exact td_iret rfl dX12_redo_65
def F_X12_areHis (a1 : Int) (D : td_D) : Option (Int × td_D) :=
  if a1 < 0 then
    some (0, D)
  else
    td_b (F_X12_isHive (tv_div a1 10) D) fun r1 D2 =>
    if r1 = 0 then
      some (0, D2)
    else
      td_b (F_X12_isPerson (tv_rem a1 10) D2) fun r3 D4 =>
      if r3 = 0 then
        some (0, D4)
      else
        some (1, D4)
set_option maxHeartbeats 4000000 in
set_option maxRecDepth 20000 in
theorem S_X12_areHis (l : Launch) {E : tv_E} (hE : tv_hE E) (d : Nat) (a1 : Int) (D : td_D) : td_msim l E (d + 2) mX12_areHis g_m [tv_R 1, tv_I a1] D (F_X12_areHis a1 D) := by
  refine td_meetL (ls := [tv_R 1, tv_I a1]) rfl (Nat.le_of_ble_eq_true rfl) rfl ?_
  unfold F_X12_areHis
  refine ts_iload_n (i := 1) rfl rfl dX12_areHis_0 ?_
  refine td_if_lt (tgt := 30) rfl dX12_areHis_1 ?_ ?_
  · refine ts_iconst rfl dX12_areHis_30 ?_
    exact td_zretK (Or.inl rfl) rfl dX12_areHis_31
  · refine ts_aload_n (i := 0) rfl rfl dX12_areHis_4 ?_
    refine ts_iload_n (i := 1) rfl rfl dX12_areHis_5 ?_
    refine ts_bipush rfl dX12_areHis_6 ?_
    refine td_idivK (by decide) dX12_areHis_8 ?_
    refine tq_callV (y2 := mX12_isHive) [tv_I (tv_div a1 10)] [] 1 (st' := fun r1 => [tv_I r1]) tw_X12_isHive tx_X12_isHive tw_c12 ga_m_1 tl_X12_185 rfl rfl rfl rfl (fun _ => rfl) dX12_areHis_9 (S_X12_isHive l hE _ (tv_div a1 10) D) (fun r1 D2 => ?_)
    refine td_if_eq (tgt := 30) rfl dX12_areHis_12 ?_ ?_
    · refine ts_iconst rfl dX12_areHis_30 ?_
      exact td_zretK (Or.inl rfl) rfl dX12_areHis_31
    · refine ts_aload_n (i := 0) rfl rfl dX12_areHis_15 ?_
      refine ts_iload_n (i := 1) rfl rfl dX12_areHis_16 ?_
      refine ts_bipush rfl dX12_areHis_17 ?_
      refine td_iremK (by decide) dX12_areHis_19 ?_
      refine tq_callV (y2 := mX12_isPerson) [tv_I (tv_rem a1 10)] [] 1 (st' := fun r3 => [tv_I r3]) tw_X12_isPerson tx_X12_isPerson tw_c12 ga_m_1 tl_X12_188 rfl rfl rfl rfl (fun _ => rfl) dX12_areHis_20 (S_X12_isPerson l hE _ (tv_rem a1 10) D2) (fun r3 D4 => ?_)
      refine td_if_eq (tgt := 30) rfl dX12_areHis_23 ?_ ?_
      · refine ts_iconst rfl dX12_areHis_30 ?_
        exact td_zretK (Or.inl rfl) rfl dX12_areHis_31
      · refine ts_iconst rfl dX12_areHis_26 ?_
        refine ts_goto (tgt := 31) rfl dX12_areHis_27 ?_
        exact td_zretK (Or.inr rfl) rfl dX12_areHis_31
def F_X12_isOne (a1 : Int) (a2 : Int) (D : td_D) : Option (Int × td_D) :=
  if a2 = 0 then
    td_b (F_X12_isPerson a1 D) fun r1 D2 =>
    if r1 = 0 ∨ r1 = 1 then some (r1, D2) else none
  else
    if a2 = 1 then
      td_b (F_X12_areHis a1 D) fun r3 D4 =>
      if r3 = 0 ∨ r3 = 1 then some (r3, D4) else none
    else
      if a2 = 2 then
        td_b (F_X12_isHive a1 D) fun r5 D6 =>
        if r5 = 0 ∨ r5 = 1 then some (r5, D6) else none
      else
        td_b (F_X12_in a2 3 5 D) fun r7 D8 =>
        if r7 = 0 then
          td_b (F_X12_in a2 6 9 D8) fun r9 D10 =>
          if r9 = 0 then
            some (0, D10)
          else
            if a1 = 0 then
              some (1, D10)
            else
              some (0, D10)
        else
          td_b (F_X12_isDeed a1 D8) fun r11 D12 =>
          if r11 = 0 ∨ r11 = 1 then some (r11, D12) else none
set_option maxHeartbeats 4000000 in
set_option maxRecDepth 20000 in
theorem S_X12_isOne (l : Launch) {E : tv_E} (hE : tv_hE E) (d : Nat) (a1 : Int) (a2 : Int) (D : td_D) : td_msim l E (d + 3) mX12_isOne g_m [tv_R 1, tv_I a1, tv_I a2] D (F_X12_isOne a1 a2 D) := by
  refine td_meetL (ls := [tv_R 1, tv_I a1, tv_I a2]) rfl (Nat.le_of_ble_eq_true rfl) rfl ?_
  unfold F_X12_isOne
  refine ts_iload_n (i := 2) rfl rfl dX12_isOne_0 ?_
  refine td_if_ne (tgt := 10) rfl dX12_isOne_1 ?_ ?_
  · refine ts_aload_n (i := 0) rfl rfl dX12_isOne_4 ?_
    refine ts_iload_n (i := 1) rfl rfl dX12_isOne_5 ?_
    refine tq_callV (y2 := mX12_isPerson) [tv_I a1] [] 1 (st' := fun r1 => [tv_I r1]) tw_X12_isPerson tx_X12_isPerson tw_c12 ga_m_1 tl_X12_188 rfl rfl rfl rfl (fun _ => rfl) dX12_isOne_6 (S_X12_isPerson l hE _ a1 D) (fun r1 D2 => ?_)
    exact td_zret rfl dX12_isOne_9
  · refine ts_iload_n (i := 2) rfl rfl dX12_isOne_10 ?_
    refine ts_iconst rfl dX12_isOne_11 ?_
    refine td_icmp_ne (tgt := 21) rfl dX12_isOne_12 ?_ ?_
    · refine ts_aload_n (i := 0) rfl rfl dX12_isOne_15 ?_
      refine ts_iload_n (i := 1) rfl rfl dX12_isOne_16 ?_
      refine tq_callV (y2 := mX12_areHis) [tv_I a1] [] 1 (st' := fun r3 => [tv_I r3]) tw_X12_areHis tx_X12_areHis tw_c12 ga_m_1 tl_X12_191 rfl rfl rfl rfl (fun _ => rfl) dX12_isOne_17 (S_X12_areHis l hE _ a1 D) (fun r3 D4 => ?_)
      exact td_zret rfl dX12_isOne_20
    · refine ts_iload_n (i := 2) rfl rfl dX12_isOne_21 ?_
      refine ts_iconst rfl dX12_isOne_22 ?_
      refine td_icmp_ne (tgt := 32) rfl dX12_isOne_23 ?_ ?_
      · refine ts_aload_n (i := 0) rfl rfl dX12_isOne_26 ?_
        refine ts_iload_n (i := 1) rfl rfl dX12_isOne_27 ?_
        refine tq_callV (y2 := mX12_isHive) [tv_I a1] [] 1 (st' := fun r5 => [tv_I r5]) tw_X12_isHive tx_X12_isHive tw_c12 ga_m_1 tl_X12_185 rfl rfl rfl rfl (fun _ => rfl) dX12_isOne_28 (S_X12_isHive l hE _ a1 D) (fun r5 D6 => ?_)
        exact td_zret rfl dX12_isOne_31
      · refine ts_iload_n (i := 2) rfl rfl dX12_isOne_32 ?_
        refine ts_iconst rfl dX12_isOne_33 ?_
        refine ts_iconst rfl dX12_isOne_34 ?_
        refine tq_callS (y2 := mX12_in) [tv_I a2, tv_I 3, tv_I 5] [] (st' := fun r7 => [tv_I r7]) tw_X12_in tx_X12_in tl_X12_142 rfl rfl rfl rfl (fun _ => rfl) dX12_isOne_35 (S_X12_in l hE _ a2 3 5 D) (fun r7 D8 => ?_)
        refine td_if_eq (tgt := 49) rfl dX12_isOne_38 ?_ ?_
        · refine ts_iload_n (i := 2) rfl rfl dX12_isOne_49 ?_
          refine ts_bipush rfl dX12_isOne_50 ?_
          refine ts_bipush rfl dX12_isOne_52 ?_
          refine tq_callS (y2 := mX12_in) [tv_I a2, tv_I 6, tv_I 9] [] (st' := fun r9 => [tv_I r9]) tw_X12_in tx_X12_in tl_X12_142 rfl rfl rfl rfl (fun _ => rfl) dX12_isOne_54 (S_X12_in l hE _ a2 6 9 D8) (fun r9 D10 => ?_)
          refine td_if_eq (tgt := 68) rfl dX12_isOne_57 ?_ ?_
          · refine ts_iconst rfl dX12_isOne_68 ?_
            exact td_zretK (Or.inl rfl) rfl dX12_isOne_69
          · refine ts_iload_n (i := 1) rfl rfl dX12_isOne_60 ?_
            refine td_if_ne (tgt := 68) rfl dX12_isOne_61 ?_ ?_
            · refine ts_iconst rfl dX12_isOne_64 ?_
              refine ts_goto (tgt := 69) rfl dX12_isOne_65 ?_
              exact td_zretK (Or.inr rfl) rfl dX12_isOne_69
            · refine ts_iconst rfl dX12_isOne_68 ?_
              exact td_zretK (Or.inl rfl) rfl dX12_isOne_69
        · refine ts_aload_n (i := 0) rfl rfl dX12_isOne_41 ?_
          refine ts_iload_n (i := 1) rfl rfl dX12_isOne_42 ?_
          refine tq_callV (y2 := mX12_isDeed) [tv_I a1] [] 1 (st' := fun r11 => [tv_I r11]) tw_X12_isDeed tx_X12_isDeed tw_c12 ga_m_1 tl_X12_194 rfl rfl rfl rfl (fun _ => rfl) dX12_isOne_43 (S_X12_isDeed l hE _ a1 D8) (fun r11 D12 => ?_)
          refine ts_goto (tgt := 69) rfl dX12_isOne_46 ?_
          exact td_zret rfl dX12_isOne_69
def F_X12_mayHave (a1 : Int) (a2 : Int) (a3 : Int) (D : td_D) : Option (Int × td_D) :=
  if a2 = 3 then
    if 0 ≤ a1 ∧ a1 < ((10 : Nat) : Int) then
      td_b (F_X12_in a3 0 (D 6 (Int.toNat a1)) D) fun r3 D4 =>
      if r3 = 0 ∨ r3 = 1 then some (r3, D4) else none
    else none
  else if a2 = 4 then
    if 0 ≤ a1 ∧ a1 < ((10 : Nat) : Int) then
      td_b (F_X12_in a3 (D 5 (Int.toNat a1)) 99 D) fun r7 D8 =>
      if r7 = 0 ∨ r7 = 1 then some (r7, D8) else none
    else none
  else if a2 = 5 then
    td_b (F_X12_isMuch a3 D) fun r10 D11 =>
    if r10 = 0 ∨ r10 = 1 then some (r10, D11) else none
  else if a2 = 6 then
    td_b (F_X12_in a3 0 3 D) fun r13 D14 =>
    if r13 = 0 ∨ r13 = 1 then some (r13, D14) else none
  else if a2 = 7 then
    td_b (F_X12_in a3 1 20 D) fun r16 D17 =>
    if r16 = 0 ∨ r16 = 1 then some (r16, D17) else none
  else if a2 = 8 then
    td_b (F_X12_in a3 0 12 D) fun r19 D20 =>
    if r19 = 0 ∨ r19 = 1 then some (r19, D20) else none
  else
    td_b (F_X12_isMuch a3 D) fun r21 D22 =>
    if r21 = 0 ∨ r21 = 1 then some (r21, D22) else none
set_option maxHeartbeats 4000000 in
set_option maxRecDepth 20000 in
theorem S_X12_mayHave (l : Launch) {E : tv_E} (hE : tv_hE E) (d : Nat) (a1 : Int) (a2 : Int) (a3 : Int) (D : td_D) : td_msim l E (d + 2) mX12_mayHave g_m [tv_R 1, tv_I a1, tv_I a2, tv_I a3] D (F_X12_mayHave a1 a2 a3 D) := by
  refine td_meetL (ls := [tv_R 1, tv_I a1, tv_I a2, tv_I a3]) rfl (Nat.le_of_ble_eq_true rfl) rfl ?_
  unfold F_X12_mayHave
  refine ts_iload_n (i := 2) rfl rfl dX12_mayHave_0 ?_
  refine td_ite (fun h1 => ?_) (fun h1 => ?_)
  · refine ts_tabIn (i := 0) (tgt := 40) (by omega) (by omega) rfl rfl dX12_mayHave_1 ?_
    refine ts_iload_n (i := 3) rfl rfl dX12_mayHave_40 ?_
    refine ts_iconst rfl dX12_mayHave_41 ?_
    refine ts_aload_n (i := 0) rfl rfl dX12_mayHave_42 ?_
    refine td_getR (q := 6) tl_X12_22 rfl ga_m_1 rfl dX12_mayHave_43 ?_
    refine ts_iload_n (i := 1) rfl rfl dX12_mayHave_46 ?_
    refine td_guard (fun h2 => ?_)
    refine td_ialdK ga_m_6 (gn_m_6 _) h2 dX12_mayHave_47 ?_
    refine tq_callS (y2 := mX12_in) [tv_I a3, tv_I 0, tv_I (D 6 (Int.toNat a1))] [] (st' := fun r3 => [tv_I r3]) tw_X12_in tx_X12_in tl_X12_142 rfl rfl rfl rfl (fun _ => rfl) dX12_mayHave_48 (S_X12_in l hE _ a3 0 (D 6 (Int.toNat a1)) D) (fun r3 D4 => ?_)
    exact td_zret rfl dX12_mayHave_51
  refine td_ite (fun h5 => ?_) (fun h5 => ?_)
  · refine ts_tabIn (i := 1) (tgt := 52) (by omega) (by omega) rfl rfl dX12_mayHave_1 ?_
    refine ts_iload_n (i := 3) rfl rfl dX12_mayHave_52 ?_
    refine ts_aload_n (i := 0) rfl rfl dX12_mayHave_53 ?_
    refine td_getR (q := 5) tl_X12_19 rfl ga_m_1 rfl dX12_mayHave_54 ?_
    refine ts_iload_n (i := 1) rfl rfl dX12_mayHave_57 ?_
    refine td_guard (fun h6 => ?_)
    refine td_ialdK ga_m_5 (gn_m_5 _) h6 dX12_mayHave_58 ?_
    refine ts_bipush rfl dX12_mayHave_59 ?_
    refine tq_callS (y2 := mX12_in) [tv_I a3, tv_I (D 5 (Int.toNat a1)), tv_I 99] [] (st' := fun r7 => [tv_I r7]) tw_X12_in tx_X12_in tl_X12_142 rfl rfl rfl rfl (fun _ => rfl) dX12_mayHave_61 (S_X12_in l hE _ a3 (D 5 (Int.toNat a1)) 99 D) (fun r7 D8 => ?_)
    exact td_zret rfl dX12_mayHave_64
  refine td_ite (fun h9 => ?_) (fun h9 => ?_)
  · refine ts_tabIn (i := 2) (tgt := 88) (by omega) (by omega) rfl rfl dX12_mayHave_1 ?_
    refine ts_iload_n (i := 3) rfl rfl dX12_mayHave_88 ?_
    refine tq_callS (y2 := mX12_isMuch) [tv_I a3] [] (st' := fun r10 => [tv_I r10]) tw_X12_isMuch tx_X12_isMuch tl_X12_152 rfl rfl rfl rfl (fun _ => rfl) dX12_mayHave_89 (S_X12_isMuch l hE _ a3 D) (fun r10 D11 => ?_)
    exact td_zret rfl dX12_mayHave_92
  refine td_ite (fun h12 => ?_) (fun h12 => ?_)
  · refine ts_tabIn (i := 3) (tgt := 65) (by omega) (by omega) rfl rfl dX12_mayHave_1 ?_
    refine ts_iload_n (i := 3) rfl rfl dX12_mayHave_65 ?_
    refine ts_iconst rfl dX12_mayHave_66 ?_
    refine ts_iconst rfl dX12_mayHave_67 ?_
    refine tq_callS (y2 := mX12_in) [tv_I a3, tv_I 0, tv_I 3] [] (st' := fun r13 => [tv_I r13]) tw_X12_in tx_X12_in tl_X12_142 rfl rfl rfl rfl (fun _ => rfl) dX12_mayHave_68 (S_X12_in l hE _ a3 0 3 D) (fun r13 D14 => ?_)
    exact td_zret rfl dX12_mayHave_71
  refine td_ite (fun h15 => ?_) (fun h15 => ?_)
  · refine ts_tabIn (i := 4) (tgt := 72) (by omega) (by omega) rfl rfl dX12_mayHave_1 ?_
    refine ts_iload_n (i := 3) rfl rfl dX12_mayHave_72 ?_
    refine ts_iconst rfl dX12_mayHave_73 ?_
    refine ts_bipush rfl dX12_mayHave_74 ?_
    refine tq_callS (y2 := mX12_in) [tv_I a3, tv_I 1, tv_I 20] [] (st' := fun r16 => [tv_I r16]) tw_X12_in tx_X12_in tl_X12_142 rfl rfl rfl rfl (fun _ => rfl) dX12_mayHave_76 (S_X12_in l hE _ a3 1 20 D) (fun r16 D17 => ?_)
    exact td_zret rfl dX12_mayHave_79
  refine td_ite (fun h18 => ?_) (fun h18 => ?_)
  · refine ts_tabIn (i := 5) (tgt := 80) (by omega) (by omega) rfl rfl dX12_mayHave_1 ?_
    refine ts_iload_n (i := 3) rfl rfl dX12_mayHave_80 ?_
    refine ts_iconst rfl dX12_mayHave_81 ?_
    refine ts_bipush rfl dX12_mayHave_82 ?_
    refine tq_callS (y2 := mX12_in) [tv_I a3, tv_I 0, tv_I 12] [] (st' := fun r19 => [tv_I r19]) tw_X12_in tx_X12_in tl_X12_142 rfl rfl rfl rfl (fun _ => rfl) dX12_mayHave_84 (S_X12_in l hE _ a3 0 12 D) (fun r19 D20 => ?_)
    exact td_zret rfl dX12_mayHave_87
  refine ts_tabOut (tgt := 88) (by omega) rfl dX12_mayHave_1 ?_
  refine ts_iload_n (i := 3) rfl rfl dX12_mayHave_88 ?_
  refine tq_callS (y2 := mX12_isMuch) [tv_I a3] [] (st' := fun r21 => [tv_I r21]) tw_X12_isMuch tx_X12_isMuch tl_X12_152 rfl rfl rfl rfl (fun _ => rfl) dX12_mayHave_89 (S_X12_isMuch l hE _ a3 D) (fun r21 D22 => ?_)
  exact td_zret rfl dX12_mayHave_92
def F_X12_mend (a1 : Int) (a2 : Int) (a3 : Int) (D : td_D) : Option (Int × td_D) :=
  td_b (F_X12_isOne a1 a2 D) fun r1 D2 =>
  if r1 = 0 then
    some ((-1), D2)
  else
    td_b (F_X12_mayHave a1 a2 a3 D2) fun r3 D4 =>
    if r3 = 0 then
      some ((-1), D4)
    else
      td_b (F_X12_changes a2 a1 a3 D4) fun r5 D6 =>
      some (r5, D6)
set_option maxHeartbeats 4000000 in
set_option maxRecDepth 20000 in
theorem S_X12_mend (l : Launch) {E : tv_E} (hE : tv_hE E) (d : Nat) (a1 : Int) (a2 : Int) (a3 : Int) (D : td_D) : td_msim l E (d + 4) mX12_mend g_m [tv_R 1, tv_I a1, tv_I a2, tv_I a3] D (F_X12_mend a1 a2 a3 D) := by
  refine td_meetL (ls := [tv_R 1, tv_I a1, tv_I a2, tv_I a3]) rfl (Nat.le_of_ble_eq_true rfl) rfl ?_
  unfold F_X12_mend
  refine ts_aload_n (i := 0) rfl rfl dX12_mend_0 ?_
  refine ts_iload_n (i := 1) rfl rfl dX12_mend_1 ?_
  refine ts_iload_n (i := 2) rfl rfl dX12_mend_2 ?_
  refine tq_callV (y2 := mX12_isOne) [tv_I a1, tv_I a2] [] 1 (st' := fun r1 => [tv_I r1]) tw_X12_isOne tx_X12_isOne tw_c12 ga_m_1 tl_X12_197 rfl rfl rfl rfl (fun _ => rfl) dX12_mend_3 (S_X12_isOne l hE _ a1 a2 D) (fun r1 D2 => ?_)
  refine td_if_eq (tgt := 29) rfl dX12_mend_6 ?_ ?_
  · refine ts_iconst rfl dX12_mend_29 ?_
    exact td_iret rfl dX12_mend_30
  · refine ts_aload_n (i := 0) rfl rfl dX12_mend_9 ?_
    refine ts_iload_n (i := 1) rfl rfl dX12_mend_10 ?_
    refine ts_iload_n (i := 2) rfl rfl dX12_mend_11 ?_
    refine ts_iload_n (i := 3) rfl rfl dX12_mend_12 ?_
    refine tq_callV (y2 := mX12_mayHave) [tv_I a1, tv_I a2, tv_I a3] [] 1 (st' := fun r3 => [tv_I r3]) tw_X12_mayHave tx_X12_mayHave tw_c12 ga_m_1 tl_X12_200 rfl rfl rfl rfl (fun _ => rfl) dX12_mend_13 (S_X12_mayHave l hE _ a1 a2 a3 D2) (fun r3 D4 => ?_)
    refine td_if_eq (tgt := 29) rfl dX12_mend_16 ?_ ?_
    · refine ts_iconst rfl dX12_mend_29 ?_
      exact td_iret rfl dX12_mend_30
    · refine ts_aload_n (i := 0) rfl rfl dX12_mend_19 ?_
      refine ts_iload_n (i := 2) rfl rfl dX12_mend_20 ?_
      refine ts_iload_n (i := 1) rfl rfl dX12_mend_21 ?_
      refine ts_iload_n (i := 3) rfl rfl dX12_mend_22 ?_
      refine tq_callV (y2 := mX12_changes) [tv_I a2, tv_I a1, tv_I a3] [] 1 (st' := fun r5 => [tv_I r5]) tw_X12_changes tx_X12_changes tw_c12 ga_m_1 tl_X12_203 rfl rfl rfl rfl (fun _ => rfl) dX12_mend_23 (S_X12_changes l hE _ a2 a1 a3 D4) (fun r5 D6 => ?_)
      refine ts_goto (tgt := 30) rfl dX12_mend_26 ?_
      exact td_iret rfl dX12_mend_30
def F_X12_of (a1 : Int) (a2 : Int) (D : td_D) : Option (Int × td_D) :=
  td_b (F_X12_isOne a1 a2 D) fun r1 D2 =>
  if r1 = 0 then
    some ((-1), D2)
  else
    td_b (F_X12_valueAt a2 a1 D2) fun r3 D4 =>
    some (r3, D4)
set_option maxHeartbeats 4000000 in
set_option maxRecDepth 20000 in
theorem S_X12_of (l : Launch) {E : tv_E} (hE : tv_hE E) (d : Nat) (a1 : Int) (a2 : Int) (D : td_D) : td_msim l E (d + 4) mX12_of g_m [tv_R 1, tv_I a1, tv_I a2] D (F_X12_of a1 a2 D) := by
  refine td_meetL (ls := [tv_R 1, tv_I a1, tv_I a2]) rfl (Nat.le_of_ble_eq_true rfl) rfl ?_
  unfold F_X12_of
  refine ts_aload_n (i := 0) rfl rfl dX12_of_0 ?_
  refine ts_iload_n (i := 1) rfl rfl dX12_of_1 ?_
  refine ts_iload_n (i := 2) rfl rfl dX12_of_2 ?_
  refine tq_callV (y2 := mX12_isOne) [tv_I a1, tv_I a2] [] 1 (st' := fun r1 => [tv_I r1]) tw_X12_isOne tx_X12_isOne tw_c12 ga_m_1 tl_X12_197 rfl rfl rfl rfl (fun _ => rfl) dX12_of_3 (S_X12_isOne l hE _ a1 a2 D) (fun r1 D2 => ?_)
  refine td_if_eq (tgt := 18) rfl dX12_of_6 ?_ ?_
  · refine ts_iconst rfl dX12_of_18 ?_
    exact td_iret rfl dX12_of_19
  · refine ts_aload_n (i := 0) rfl rfl dX12_of_9 ?_
    refine ts_iload_n (i := 2) rfl rfl dX12_of_10 ?_
    refine ts_iload_n (i := 1) rfl rfl dX12_of_11 ?_
    refine tq_callV (y2 := mX12_valueAt) [tv_I a2, tv_I a1] [] 1 (st' := fun r3 => [tv_I r3]) tw_X12_valueAt tx_X12_valueAt tw_c12 ga_m_1 tl_X12_172 rfl rfl rfl rfl (fun _ => rfl) dX12_of_12 (S_X12_valueAt l hE _ a2 a1 D2) (fun r3 D4 => ?_)
    refine ts_goto (tgt := 19) rfl dX12_of_15 ?_
    exact td_iret rfl dX12_of_19
def F_X12_feed (a1 : Int) (D : td_D) : Option (Int × td_D) :=
  td_b (F_X12_in a1 0 255 D) fun r1 D2 =>
  if r1 = 0 then
    some ((-1), D2)
  else
    if D2 1 18 = 120 then
      some ((-3), D2)
    else
      if 0 ≤ D2 1 18 ∧ D2 1 18 < ((120 : Nat) : Int) then
        td_l (td_upd D2 13 (Int.toNat (D2 1 18)) (tv_i2b (tv_i2b a1))) fun D4 =>
        td_l (td_upd D4 1 18 (tv_w ((D4 1 18) + 1))) fun D5 =>
        some (D5 1 18, D5)
      else none
set_option maxHeartbeats 4000000 in
set_option maxRecDepth 20000 in
theorem S_X12_feed (l : Launch) {E : tv_E} (hE : tv_hE E) (d : Nat) (a1 : Int) (D : td_D) : td_msim l E (d + 1) mX12_feed g_m [tv_R 1, tv_I a1] D (F_X12_feed a1 D) := by
  refine td_meetL (ls := [tv_R 1, tv_I a1]) rfl (Nat.le_of_ble_eq_true rfl) rfl ?_
  unfold F_X12_feed
  refine ts_iload_n (i := 1) rfl rfl dX12_feed_0 ?_
  refine ts_iconst rfl dX12_feed_1 ?_
  refine ts_sipush rfl dX12_feed_2 ?_
  refine tq_callS (y2 := mX12_in) [tv_I a1, tv_I 0, tv_I 255] [] (st' := fun r1 => [tv_I r1]) tw_X12_in tx_X12_in tl_X12_142 rfl rfl rfl rfl (fun _ => rfl) dX12_feed_5 (S_X12_in l hE _ a1 0 255 D) (fun r1 D2 => ?_)
  refine td_if_ne (tgt := 13) rfl dX12_feed_8 ?_ ?_
  · refine ts_iconst rfl dX12_feed_11 ?_
    exact td_iret rfl dX12_feed_12
  · refine ts_aload_n (i := 0) rfl rfl dX12_feed_13 ?_
    refine td_getI tl_X12_206 rfl ga_m_1 rfl dX12_feed_14 ?_
    refine ts_bipush rfl dX12_feed_17 ?_
    refine td_icmp_ne (tgt := 25) rfl dX12_feed_19 ?_ ?_
    · refine ts_bipush rfl dX12_feed_22 ?_
      exact td_iret rfl dX12_feed_24
    · refine ts_aload_n (i := 0) rfl rfl dX12_feed_25 ?_
      refine td_getR (q := 13) tl_X12_43 rfl ga_m_1 rfl dX12_feed_26 ?_
      refine ts_aload_n (i := 0) rfl rfl dX12_feed_29 ?_
      refine td_getI tl_X12_206 rfl ga_m_1 rfl dX12_feed_30 ?_
      refine ts_iload_n (i := 1) rfl rfl dX12_feed_33 ?_
      refine ts_i2b dX12_feed_34 ?_
      refine td_guard (fun h3 => ?_)
      refine td_bastK ga_m_13 (gn_m_13 _) h3 dX12_feed_35 ?_
      refine td_let (fun D4 => ?_)
      refine ts_aload_n (i := 0) rfl rfl dX12_feed_36 ?_
      refine ts_dupR dX12_feed_37 ?_
      refine td_getI tl_X12_206 rfl ga_m_1 rfl dX12_feed_38 ?_
      refine ts_iconst rfl dX12_feed_41 ?_
      refine ts_iadd dX12_feed_42 ?_
      refine td_putI tf_X12_206 (by intro h; cases h) rfl ga_m_1 rfl dX12_feed_43 ?_
      refine td_let (fun D5 => ?_)
      refine ts_aload_n (i := 0) rfl rfl dX12_feed_46 ?_
      refine td_getI tl_X12_206 rfl ga_m_1 rfl dX12_feed_47 ?_
      exact td_iret rfl dX12_feed_50
def F_X12_look (D : td_D) : Option (Int × td_D) :=
  if D 1 18 ≤ D 1 19 then
    some ((-1), D)
  else
    if 0 ≤ D 1 19 ∧ D 1 19 < ((120 : Nat) : Int) then
      some (D 13 (Int.toNat (D 1 19)), D)
    else none
set_option maxHeartbeats 4000000 in
set_option maxRecDepth 20000 in
theorem S_X12_look (l : Launch) {E : tv_E} (hE : tv_hE E) (d : Nat) (D : td_D) : td_msim l E (d + 0) mX12_look g_m [tv_R 1] D (F_X12_look D) := by
  refine td_meetL (ls := [tv_R 1]) rfl (Nat.le_of_ble_eq_true rfl) rfl ?_
  unfold F_X12_look
  refine ts_aload_n (i := 0) rfl rfl dX12_look_0 ?_
  refine td_getI tl_X12_209 rfl ga_m_1 rfl dX12_look_1 ?_
  refine ts_aload_n (i := 0) rfl rfl dX12_look_4 ?_
  refine td_getI tl_X12_206 rfl ga_m_1 rfl dX12_look_5 ?_
  refine td_icmp_ge (tgt := 23) rfl dX12_look_8 ?_ ?_
  · refine ts_iconst rfl dX12_look_23 ?_
    exact td_iret rfl dX12_look_24
  · refine ts_aload_n (i := 0) rfl rfl dX12_look_11 ?_
    refine td_getR (q := 13) tl_X12_43 rfl ga_m_1 rfl dX12_look_12 ?_
    refine ts_aload_n (i := 0) rfl rfl dX12_look_15 ?_
    refine td_getI tl_X12_209 rfl ga_m_1 rfl dX12_look_16 ?_
    refine td_guard (fun h1 => ?_)
    refine td_baldK ga_m_13 (gn_m_13 _) h1 dX12_look_19 ?_
    refine ts_goto (tgt := 24) rfl dX12_look_20 ?_
    exact td_iret rfl dX12_look_24
def F_X12_wrong (D : td_D) : Option (Int × td_D) :=
  if 0 ≤ D 1 20 then
    some (0, D)
  else
    td_l (td_upd D 1 20 (D 1 19)) fun D1 =>
    some (0, D1)
set_option maxHeartbeats 4000000 in
set_option maxRecDepth 20000 in
theorem S_X12_wrong (l : Launch) {E : tv_E} (hE : tv_hE E) (d : Nat) (D : td_D) : td_msim l E (d + 0) mX12_wrong g_m [tv_R 1] D (F_X12_wrong D) := by
  refine td_meetL (ls := [tv_R 1]) rfl (Nat.le_of_ble_eq_true rfl) rfl ?_
  unfold F_X12_wrong
  refine ts_aload_n (i := 0) rfl rfl dX12_wrong_0 ?_
  refine td_getI tl_X12_212 rfl ga_m_1 rfl dX12_wrong_1 ?_
  refine td_if_ge (tgt := 15) rfl dX12_wrong_4 ?_ ?_
  · exact td_vret rfl dX12_wrong_15
  · refine ts_aload_n (i := 0) rfl rfl dX12_wrong_7 ?_
    refine ts_aload_n (i := 0) rfl rfl dX12_wrong_8 ?_
    refine td_getI tl_X12_209 rfl ga_m_1 rfl dX12_wrong_9 ?_
    refine td_putI tf_X12_212 (by intro h; cases h) rfl ga_m_1 rfl dX12_wrong_12 ?_
    refine td_let (fun D1 => ?_)
    exact td_vret rfl dX12_wrong_15
def F_X12_addStep (a1 : Int) (a2 : Int) (D : td_D) : Option (Int × td_D) :=
  if 0 ≤ tv_w (130 + (D 1 22)) ∧ tv_w (130 + (D 1 22)) < ((260 : Nat) : Int) then
    td_l (td_upd D 14 (Int.toNat (tv_w (130 + (D 1 22)))) (tv_i2b (tv_i2b a1))) fun D2 =>
    if 0 ≤ tv_w (130 + (D2 1 22)) ∧ tv_w (130 + (D2 1 22)) < ((260 : Nat) : Int) then
      td_l (td_upd D2 15 (Int.toNat (tv_w (130 + (D2 1 22)))) a2) fun D4 =>
      td_l (td_upd D4 1 22 (tv_w ((D4 1 22) + 1))) fun D5 =>
      some (0, D5)
    else none
  else none
set_option maxHeartbeats 4000000 in
set_option maxRecDepth 20000 in
theorem S_X12_addStep (l : Launch) {E : tv_E} (hE : tv_hE E) (d : Nat) (a1 : Int) (a2 : Int) (D : td_D) : td_msim l E (d + 0) mX12_addStep g_m [tv_R 1, tv_I a1, tv_I a2] D (F_X12_addStep a1 a2 D) := by
  refine td_meetL (ls := [tv_R 1, tv_I a1, tv_I a2]) rfl (Nat.le_of_ble_eq_true rfl) rfl ?_
  unfold F_X12_addStep
  refine ts_aload_n (i := 0) rfl rfl dX12_addStep_0 ?_
  refine td_getR (q := 14) tl_X12_47 rfl ga_m_1 rfl dX12_addStep_1 ?_
  refine ts_sipush rfl dX12_addStep_4 ?_
  refine ts_aload_n (i := 0) rfl rfl dX12_addStep_7 ?_
  refine td_getI tl_X12_215 rfl ga_m_1 rfl dX12_addStep_8 ?_
  refine ts_iadd dX12_addStep_11 ?_
  refine ts_iload_n (i := 1) rfl rfl dX12_addStep_12 ?_
  refine ts_i2b dX12_addStep_13 ?_
  refine td_guard (fun h1 => ?_)
  refine td_bastK ga_m_14 (gn_m_14 _) h1 dX12_addStep_14 ?_
  refine td_let (fun D2 => ?_)
  refine ts_aload_n (i := 0) rfl rfl dX12_addStep_15 ?_
  refine td_getR (q := 15) tl_X12_50 rfl ga_m_1 rfl dX12_addStep_16 ?_
  refine ts_sipush rfl dX12_addStep_19 ?_
  refine ts_aload_n (i := 0) rfl rfl dX12_addStep_22 ?_
  refine td_getI tl_X12_215 rfl ga_m_1 rfl dX12_addStep_23 ?_
  refine ts_iadd dX12_addStep_26 ?_
  refine ts_iload_n (i := 2) rfl rfl dX12_addStep_27 ?_
  refine td_guard (fun h3 => ?_)
  refine td_iastK ga_m_15 (gn_m_15 _) h3 dX12_addStep_28 ?_
  refine td_let (fun D4 => ?_)
  refine ts_aload_n (i := 0) rfl rfl dX12_addStep_29 ?_
  refine ts_dupR dX12_addStep_30 ?_
  refine td_getI tl_X12_215 rfl ga_m_1 rfl dX12_addStep_31 ?_
  refine ts_iconst rfl dX12_addStep_34 ?_
  refine ts_iadd dX12_addStep_35 ?_
  refine td_putI tf_X12_215 (by intro h; cases h) rfl ga_m_1 rfl dX12_addStep_36 ?_
  refine td_let (fun D5 => ?_)
  exact td_vret rfl dX12_addStep_39
def F_X12_nameOf_104 (D : td_D) : Option (Int × td_D) :=
  some ((-1), D)
set_option maxHeartbeats 4000000 in
set_option maxRecDepth 20000 in
theorem S_X12_nameOf_104 {l : Launch} {E : tv_E} (hE : tv_hE E) (d : Nat) (D : td_D) : td_sim l E (d + 0) mX12_nameOf g_m 104 [tv_U] [] D (F_X12_nameOf_104 D) := by
  unfold F_X12_nameOf_104
  refine ts_iconst rfl dX12_nameOf_104 ?_
  exact td_iret rfl dX12_nameOf_105
def F_X12_nameOf (a0 : Int) (D : td_D) : Option (Int × td_D) :=
  if a0 = 97 then
    some (0, D)
  else if a0 = 98 then
    F_X12_nameOf_104 D
  else if a0 = 99 then
    F_X12_nameOf_104 D
  else if a0 = 100 then
    some (5, D)
  else if a0 = 101 then
    F_X12_nameOf_104 D
  else if a0 = 102 then
    F_X12_nameOf_104 D
  else if a0 = 103 then
    F_X12_nameOf_104 D
  else if a0 = 104 then
    some (4, D)
  else if a0 = 105 then
    F_X12_nameOf_104 D
  else if a0 = 106 then
    F_X12_nameOf_104 D
  else if a0 = 107 then
    F_X12_nameOf_104 D
  else if a0 = 108 then
    F_X12_nameOf_104 D
  else if a0 = 109 then
    F_X12_nameOf_104 D
  else if a0 = 110 then
    some (1, D)
  else if a0 = 111 then
    some (3, D)
  else if a0 = 112 then
    F_X12_nameOf_104 D
  else if a0 = 113 then
    F_X12_nameOf_104 D
  else if a0 = 114 then
    F_X12_nameOf_104 D
  else if a0 = 115 then
    some (2, D)
  else
    F_X12_nameOf_104 D
set_option maxHeartbeats 4000000 in
set_option maxRecDepth 20000 in
theorem S_X12_nameOf (l : Launch) {E : tv_E} (hE : tv_hE E) (d : Nat) (a0 : Int) (D : td_D) : td_msim l E (d + 0) mX12_nameOf g_m [tv_I a0] D (F_X12_nameOf a0 D) := by
  refine td_meetL (ls := [tv_I a0]) rfl (Nat.le_of_ble_eq_true rfl) rfl ?_
  unfold F_X12_nameOf
  refine ts_iload_n (i := 0) rfl rfl dX12_nameOf_0 ?_
  refine td_ite (fun h1 => ?_) (fun h1 => ?_)
  · refine ts_tabIn (i := 0) (tgt := 92) (by omega) (by omega) rfl rfl dX12_nameOf_1 ?_
    refine ts_iconst rfl dX12_nameOf_92 ?_
    exact td_iret rfl dX12_nameOf_93
  refine td_ite (fun h2 => ?_) (fun h2 => ?_)
  · refine ts_tabIn (i := 1) (tgt := 104) (by omega) (by omega) rfl rfl dX12_nameOf_1 ?_
    refine tv_weak (ls' := [tv_U]) ⟨Or.inl rfl, trivial⟩ ?_
    exact S_X12_nameOf_104 hE d D
  refine td_ite (fun h3 => ?_) (fun h3 => ?_)
  · refine ts_tabIn (i := 2) (tgt := 104) (by omega) (by omega) rfl rfl dX12_nameOf_1 ?_
    refine tv_weak (ls' := [tv_U]) ⟨Or.inl rfl, trivial⟩ ?_
    exact S_X12_nameOf_104 hE d D
  refine td_ite (fun h4 => ?_) (fun h4 => ?_)
  · refine ts_tabIn (i := 3) (tgt := 102) (by omega) (by omega) rfl rfl dX12_nameOf_1 ?_
    refine ts_iconst rfl dX12_nameOf_102 ?_
    exact td_iret rfl dX12_nameOf_103
  refine td_ite (fun h5 => ?_) (fun h5 => ?_)
  · refine ts_tabIn (i := 4) (tgt := 104) (by omega) (by omega) rfl rfl dX12_nameOf_1 ?_
    refine tv_weak (ls' := [tv_U]) ⟨Or.inl rfl, trivial⟩ ?_
    exact S_X12_nameOf_104 hE d D
  refine td_ite (fun h6 => ?_) (fun h6 => ?_)
  · refine ts_tabIn (i := 5) (tgt := 104) (by omega) (by omega) rfl rfl dX12_nameOf_1 ?_
    refine tv_weak (ls' := [tv_U]) ⟨Or.inl rfl, trivial⟩ ?_
    exact S_X12_nameOf_104 hE d D
  refine td_ite (fun h7 => ?_) (fun h7 => ?_)
  · refine ts_tabIn (i := 6) (tgt := 104) (by omega) (by omega) rfl rfl dX12_nameOf_1 ?_
    refine tv_weak (ls' := [tv_U]) ⟨Or.inl rfl, trivial⟩ ?_
    exact S_X12_nameOf_104 hE d D
  refine td_ite (fun h8 => ?_) (fun h8 => ?_)
  · refine ts_tabIn (i := 7) (tgt := 100) (by omega) (by omega) rfl rfl dX12_nameOf_1 ?_
    refine ts_iconst rfl dX12_nameOf_100 ?_
    exact td_iret rfl dX12_nameOf_101
  refine td_ite (fun h9 => ?_) (fun h9 => ?_)
  · refine ts_tabIn (i := 8) (tgt := 104) (by omega) (by omega) rfl rfl dX12_nameOf_1 ?_
    refine tv_weak (ls' := [tv_U]) ⟨Or.inl rfl, trivial⟩ ?_
    exact S_X12_nameOf_104 hE d D
  refine td_ite (fun h10 => ?_) (fun h10 => ?_)
  · refine ts_tabIn (i := 9) (tgt := 104) (by omega) (by omega) rfl rfl dX12_nameOf_1 ?_
    refine tv_weak (ls' := [tv_U]) ⟨Or.inl rfl, trivial⟩ ?_
    exact S_X12_nameOf_104 hE d D
  refine td_ite (fun h11 => ?_) (fun h11 => ?_)
  · refine ts_tabIn (i := 10) (tgt := 104) (by omega) (by omega) rfl rfl dX12_nameOf_1 ?_
    refine tv_weak (ls' := [tv_U]) ⟨Or.inl rfl, trivial⟩ ?_
    exact S_X12_nameOf_104 hE d D
  refine td_ite (fun h12 => ?_) (fun h12 => ?_)
  · refine ts_tabIn (i := 11) (tgt := 104) (by omega) (by omega) rfl rfl dX12_nameOf_1 ?_
    refine tv_weak (ls' := [tv_U]) ⟨Or.inl rfl, trivial⟩ ?_
    exact S_X12_nameOf_104 hE d D
  refine td_ite (fun h13 => ?_) (fun h13 => ?_)
  · refine ts_tabIn (i := 12) (tgt := 104) (by omega) (by omega) rfl rfl dX12_nameOf_1 ?_
    refine tv_weak (ls' := [tv_U]) ⟨Or.inl rfl, trivial⟩ ?_
    exact S_X12_nameOf_104 hE d D
  refine td_ite (fun h14 => ?_) (fun h14 => ?_)
  · refine ts_tabIn (i := 13) (tgt := 94) (by omega) (by omega) rfl rfl dX12_nameOf_1 ?_
    refine ts_iconst rfl dX12_nameOf_94 ?_
    exact td_iret rfl dX12_nameOf_95
  refine td_ite (fun h15 => ?_) (fun h15 => ?_)
  · refine ts_tabIn (i := 14) (tgt := 98) (by omega) (by omega) rfl rfl dX12_nameOf_1 ?_
    refine ts_iconst rfl dX12_nameOf_98 ?_
    exact td_iret rfl dX12_nameOf_99
  refine td_ite (fun h16 => ?_) (fun h16 => ?_)
  · refine ts_tabIn (i := 15) (tgt := 104) (by omega) (by omega) rfl rfl dX12_nameOf_1 ?_
    refine tv_weak (ls' := [tv_U]) ⟨Or.inl rfl, trivial⟩ ?_
    exact S_X12_nameOf_104 hE d D
  refine td_ite (fun h17 => ?_) (fun h17 => ?_)
  · refine ts_tabIn (i := 16) (tgt := 104) (by omega) (by omega) rfl rfl dX12_nameOf_1 ?_
    refine tv_weak (ls' := [tv_U]) ⟨Or.inl rfl, trivial⟩ ?_
    exact S_X12_nameOf_104 hE d D
  refine td_ite (fun h18 => ?_) (fun h18 => ?_)
  · refine ts_tabIn (i := 17) (tgt := 104) (by omega) (by omega) rfl rfl dX12_nameOf_1 ?_
    refine tv_weak (ls' := [tv_U]) ⟨Or.inl rfl, trivial⟩ ?_
    exact S_X12_nameOf_104 hE d D
  refine td_ite (fun h19 => ?_) (fun h19 => ?_)
  · refine ts_tabIn (i := 18) (tgt := 96) (by omega) (by omega) rfl rfl dX12_nameOf_1 ?_
    refine ts_iconst rfl dX12_nameOf_96 ?_
    exact td_iret rfl dX12_nameOf_97
  refine ts_tabOut (tgt := 104) (by omega) rfl dX12_nameOf_1 ?_
  refine tv_weak (ls' := [tv_U]) ⟨Or.inl rfl, trivial⟩ ?_
  exact S_X12_nameOf_104 hE d D
def F_X12_opens (D : td_D) : Option (Int × td_D) :=
  if D 1 21 = 6 then
    td_b (F_X12_wrong D) fun _ D2 =>
    some (0, D2)
  else
    td_l (td_upd D 1 21 (tv_w ((D 1 21) + 1))) fun D3 =>
    td_l (td_upd D3 1 19 (tv_w ((D3 1 19) + 1))) fun D4 =>
    some (1, D4)
set_option maxHeartbeats 4000000 in
set_option maxRecDepth 20000 in
theorem S_X12_opens (l : Launch) {E : tv_E} (hE : tv_hE E) (d : Nat) (D : td_D) : td_msim l E (d + 1) mX12_opens g_m [tv_R 1] D (F_X12_opens D) := by
  refine td_meetL (ls := [tv_R 1]) rfl (Nat.le_of_ble_eq_true rfl) rfl ?_
  unfold F_X12_opens
  refine ts_aload_n (i := 0) rfl rfl dX12_opens_0 ?_
  refine td_getI tl_X12_218 rfl ga_m_1 rfl dX12_opens_1 ?_
  refine ts_bipush rfl dX12_opens_4 ?_
  refine td_icmp_ne (tgt := 15) rfl dX12_opens_6 ?_ ?_
  · refine ts_aload_n (i := 0) rfl rfl dX12_opens_9 ?_
    refine tq_callV (y2 := mX12_wrong) [] [] 1 (st' := fun _ => []) tw_X12_wrong tx_X12_wrong tw_c12 ga_m_1 tl_X12_221 rfl rfl rfl rfl (fun _ => rfl) dX12_opens_10 (S_X12_wrong l hE _ D) (fun r1 D2 => ?_)
    refine ts_iconst rfl dX12_opens_13 ?_
    exact td_zretK (Or.inl rfl) rfl dX12_opens_14
  · refine ts_aload_n (i := 0) rfl rfl dX12_opens_15 ?_
    refine ts_dupR dX12_opens_16 ?_
    refine td_getI tl_X12_218 rfl ga_m_1 rfl dX12_opens_17 ?_
    refine ts_iconst rfl dX12_opens_20 ?_
    refine ts_iadd dX12_opens_21 ?_
    refine td_putI tf_X12_218 (by intro h; cases h) rfl ga_m_1 rfl dX12_opens_22 ?_
    refine td_let (fun D3 => ?_)
    refine ts_aload_n (i := 0) rfl rfl dX12_opens_25 ?_
    refine ts_dupR dX12_opens_26 ?_
    refine td_getI tl_X12_209 rfl ga_m_1 rfl dX12_opens_27 ?_
    refine ts_iconst rfl dX12_opens_30 ?_
    refine ts_iadd dX12_opens_31 ?_
    refine td_putI tf_X12_209 (by intro h; cases h) rfl ga_m_1 rfl dX12_opens_32 ?_
    refine td_let (fun D4 => ?_)
    refine ts_iconst rfl dX12_opens_35 ?_
    exact td_zretK (Or.inr rfl) rfl dX12_opens_36
def F_X12_figure_52 (v1 : Int) (v2 : Int) (D : td_D) : Option (Int × td_D) :=
  if v2 = 0 then
    td_b (F_X12_wrong D) fun _ D2 =>
    td_b (F_X12_addStep 1 v1 D2) fun _ D4 =>
    some (0, D4)
  else
    td_b (F_X12_look D) fun r5 D6 =>
    td_b (F_X12_in r5 48 57 D6) fun r7 D8 =>
    if r7 = 0 then
      td_b (F_X12_addStep 1 v1 D8) fun _ D10 =>
      some (0, D10)
    else
      td_b (F_X12_wrong D8) fun _ D12 =>
      td_b (F_X12_addStep 1 v1 D12) fun _ D14 =>
      some (0, D14)
set_option maxHeartbeats 4000000 in
set_option maxRecDepth 20000 in
theorem S_X12_figure_52 {l : Launch} {E : tv_E} (hE : tv_hE E) (d : Nat) (v1 : Int) (v2 : Int) (D : td_D) : td_sim l E (d + 1) mX12_figure g_m 52 [tv_R 1, tv_I v1, tv_I v2] [] D (F_X12_figure_52 v1 v2 D) := by
  unfold F_X12_figure_52
  refine ts_iload_n (i := 2) rfl rfl dX12_figure_52 ?_
  refine td_if_eq (tgt := 70) rfl dX12_figure_53 ?_ ?_
  · refine ts_aload_n (i := 0) rfl rfl dX12_figure_70 ?_
    refine tq_callV (y2 := mX12_wrong) [] [] 1 (st' := fun _ => []) tw_X12_wrong tx_X12_wrong tw_c12 ga_m_1 tl_X12_221 rfl rfl rfl rfl (fun _ => rfl) dX12_figure_71 (S_X12_wrong l hE _ D) (fun r1 D2 => ?_)
    refine ts_aload_n (i := 0) rfl rfl dX12_figure_74 ?_
    refine ts_iconst rfl dX12_figure_75 ?_
    refine ts_iload_n (i := 1) rfl rfl dX12_figure_76 ?_
    refine tq_callV (y2 := mX12_addStep) [tv_I 1, tv_I v1] [] 1 (st' := fun _ => []) tw_X12_addStep tx_X12_addStep tw_c12 ga_m_1 tl_X12_228 rfl rfl rfl rfl (fun _ => rfl) dX12_figure_77 (S_X12_addStep l hE _ 1 v1 D2) (fun r3 D4 => ?_)
    exact td_vret rfl dX12_figure_80
  · refine ts_aload_n (i := 0) rfl rfl dX12_figure_56 ?_
    refine tq_callV (y2 := mX12_look) [] [] 1 (st' := fun r5 => [tv_I r5]) tw_X12_look tx_X12_look tw_c12 ga_m_1 tl_X12_224 rfl rfl rfl rfl (fun _ => rfl) dX12_figure_57 (S_X12_look l hE _ D) (fun r5 D6 => ?_)
    refine ts_bipush rfl dX12_figure_60 ?_
    refine ts_bipush rfl dX12_figure_62 ?_
    refine tq_callS (y2 := mX12_in) [tv_I r5, tv_I 48, tv_I 57] [] (st' := fun r7 => [tv_I r7]) tw_X12_in tx_X12_in tl_X12_142 rfl rfl rfl rfl (fun _ => rfl) dX12_figure_64 (S_X12_in l hE _ r5 48 57 D6) (fun r7 D8 => ?_)
    refine td_if_eq (tgt := 74) rfl dX12_figure_67 ?_ ?_
    · refine ts_aload_n (i := 0) rfl rfl dX12_figure_74 ?_
      refine ts_iconst rfl dX12_figure_75 ?_
      refine ts_iload_n (i := 1) rfl rfl dX12_figure_76 ?_
      refine tq_callV (y2 := mX12_addStep) [tv_I 1, tv_I v1] [] 1 (st' := fun _ => []) tw_X12_addStep tx_X12_addStep tw_c12 ga_m_1 tl_X12_228 rfl rfl rfl rfl (fun _ => rfl) dX12_figure_77 (S_X12_addStep l hE _ 1 v1 D8) (fun r9 D10 => ?_)
      exact td_vret rfl dX12_figure_80
    · refine ts_aload_n (i := 0) rfl rfl dX12_figure_70 ?_
      refine tq_callV (y2 := mX12_wrong) [] [] 1 (st' := fun _ => []) tw_X12_wrong tx_X12_wrong tw_c12 ga_m_1 tl_X12_221 rfl rfl rfl rfl (fun _ => rfl) dX12_figure_71 (S_X12_wrong l hE _ D8) (fun r11 D12 => ?_)
      refine ts_aload_n (i := 0) rfl rfl dX12_figure_74 ?_
      refine ts_iconst rfl dX12_figure_75 ?_
      refine ts_iload_n (i := 1) rfl rfl dX12_figure_76 ?_
      refine tq_callV (y2 := mX12_addStep) [tv_I 1, tv_I v1] [] 1 (st' := fun _ => []) tw_X12_addStep tx_X12_addStep tw_c12 ga_m_1 tl_X12_228 rfl rfl rfl rfl (fun _ => rfl) dX12_figure_77 (S_X12_addStep l hE _ 1 v1 D12) (fun r13 D14 => ?_)
      exact td_vret rfl dX12_figure_80
def F_X12_figure_4 : Nat → Int → Int → td_D → Option (Int × td_D)
  | 0, _, _, _ => none
  | n + 1, v1, v2, D =>
    if 4 ≤ v2 then
      F_X12_figure_52 v1 v2 D
    else
      td_b (F_X12_look D) fun r15 D16 =>
      td_b (F_X12_in r15 48 57 D16) fun r17 D18 =>
      if r17 = 0 then
        F_X12_figure_52 v1 v2 D18
      else
        td_b (F_X12_look D18) fun r19 D20 =>
        td_l (td_upd D20 1 19 (tv_w ((D20 1 19) + 1))) fun D21 =>
        F_X12_figure_4 n (tv_w ((tv_w ((tv_w (10 * v1)) + r19)) - 48)) (tv_w (v2 + 1)) D21
set_option maxHeartbeats 4000000 in
set_option maxRecDepth 20000 in
theorem S_X12_figure_4 {l : Launch} {E : tv_E} (hE : tv_hE E) (d : Nat) : ∀ (n : Nat) (v1 : Int) (v2 : Int) (D : td_D), td_sim l E (d + 1) mX12_figure g_m 4 [tv_R 1, tv_I v1, tv_I v2] [] D (F_X12_figure_4 n v1 v2 D) := by
  intro n
  induction n with
  | zero => intros; exact tv_none
  | succ n ih =>
    intro v1 v2 D
    show td_sim _ _ _ _ _ _ _ _ _ (F_X12_figure_4 (n + 1) v1 v2 D)
    unfold F_X12_figure_4
    refine ts_iload_n (i := 2) rfl rfl dX12_figure_4 ?_
    refine ts_iconst rfl dX12_figure_5 ?_
    refine td_icmp_ge (tgt := 52) rfl dX12_figure_6 ?_ ?_
    · exact S_X12_figure_52 hE d v1 v2 D
    · refine ts_aload_n (i := 0) rfl rfl dX12_figure_9 ?_
      refine tq_callV (y2 := mX12_look) [] [] 1 (st' := fun r15 => [tv_I r15]) tw_X12_look tx_X12_look tw_c12 ga_m_1 tl_X12_224 rfl rfl rfl rfl (fun _ => rfl) dX12_figure_10 (S_X12_look l hE _ D) (fun r15 D16 => ?_)
      refine ts_bipush rfl dX12_figure_13 ?_
      refine ts_bipush rfl dX12_figure_15 ?_
      refine tq_callS (y2 := mX12_in) [tv_I r15, tv_I 48, tv_I 57] [] (st' := fun r17 => [tv_I r17]) tw_X12_in tx_X12_in tl_X12_142 rfl rfl rfl rfl (fun _ => rfl) dX12_figure_17 (S_X12_in l hE _ r15 48 57 D16) (fun r17 D18 => ?_)
      refine td_if_eq (tgt := 52) rfl dX12_figure_20 ?_ ?_
      · exact S_X12_figure_52 hE d v1 v2 D18
      · refine ts_bipush rfl dX12_figure_23 ?_
        refine ts_iload_n (i := 1) rfl rfl dX12_figure_25 ?_
        refine ts_imul dX12_figure_26 ?_
        refine ts_aload_n (i := 0) rfl rfl dX12_figure_27 ?_
        refine tq_callV (y2 := mX12_look) [] [tv_I (tv_w (10 * v1))] 1 (st' := fun r19 => [tv_I r19, tv_I (tv_w (10 * v1))]) tw_X12_look tx_X12_look tw_c12 ga_m_1 tl_X12_224 rfl rfl rfl rfl (fun _ => rfl) dX12_figure_28 (S_X12_look l hE _ D18) (fun r19 D20 => ?_)
        refine ts_iadd dX12_figure_31 ?_
        refine ts_bipush rfl dX12_figure_32 ?_
        refine ts_isub dX12_figure_34 ?_
        refine tq_istore_n [tv_R 1, tv_I (tv_w ((tv_w ((tv_w (10 * v1)) + r19)) - 48)), tv_I v2] rfl (Nat.le_of_ble_eq_true rfl) rfl rfl dX12_figure_35 ?_
        refine tq_iinc [tv_R 1, tv_I (tv_w ((tv_w ((tv_w (10 * v1)) + r19)) - 48)), tv_I (tv_w (v2 + 1))] rfl rfl rfl dX12_figure_36 ?_
        refine ts_aload_n (i := 0) rfl rfl dX12_figure_39 ?_
        refine ts_dupR dX12_figure_40 ?_
        refine td_getI tl_X12_209 rfl ga_m_1 rfl dX12_figure_41 ?_
        refine ts_iconst rfl dX12_figure_44 ?_
        refine ts_iadd dX12_figure_45 ?_
        refine td_putI tf_X12_209 (by intro h; cases h) rfl ga_m_1 rfl dX12_figure_46 ?_
        refine td_let (fun D21 => ?_)
        refine ts_goto (tgt := 4) rfl dX12_figure_49 ?_
        exact ih (tv_w ((tv_w ((tv_w (10 * v1)) + r19)) - 48)) (tv_w (v2 + 1)) D21
def F_X12_figure (D : td_D) : Option (Int × td_D) :=
  F_X12_figure_4 tf_N 0 0 D
set_option maxHeartbeats 4000000 in
set_option maxRecDepth 20000 in
theorem S_X12_figure (l : Launch) {E : tv_E} (hE : tv_hE E) (d : Nat) (D : td_D) : td_msim l E (d + 1) mX12_figure g_m [tv_R 1] D (F_X12_figure D) := by
  refine td_meetL (ls := [tv_R 1, tv_U, tv_U]) rfl (Nat.le_of_ble_eq_true rfl) rfl ?_
  unfold F_X12_figure
  refine ts_iconst rfl dX12_figure_0 ?_
  refine tq_istore_n [tv_R 1, tv_I 0, tv_U] rfl (Nat.le_of_ble_eq_true rfl) rfl rfl dX12_figure_1 ?_
  refine ts_iconst rfl dX12_figure_2 ?_
  refine tq_istore_n [tv_R 1, tv_I 0, tv_I 0] rfl (Nat.le_of_ble_eq_true rfl) rfl rfl dX12_figure_3 ?_
  exact S_X12_figure_4 hE d tf_N 0 0 D
def F_X12_twoOf_218 (v1 : Int) (v2 : Int) (D : td_D) : Option (Int × td_D) :=
  if v1 = 0 then
    if v2 = 0 then
      some (0, D)
    else
      some (1, D)
  else
    some (1, D)
set_option maxHeartbeats 4000000 in
set_option maxRecDepth 20000 in
theorem S_X12_twoOf_218 {l : Launch} {E : tv_E} (hE : tv_hE E) (d : Nat) (v1 : Int) (v2 : Int) (D : td_D) : td_sim l E (d + 0) mX12_twoOf g_m 218 [tv_U, tv_I v1, tv_I v2] [] D (F_X12_twoOf_218 v1 v2 D) := by
  unfold F_X12_twoOf_218
  refine ts_iload_n (i := 1) rfl rfl dX12_twoOf_218 ?_
  refine td_if_ne (tgt := 226) rfl dX12_twoOf_219 ?_ ?_
  · refine ts_iload_n (i := 2) rfl rfl dX12_twoOf_222 ?_
    refine td_if_eq (tgt := 230) rfl dX12_twoOf_223 ?_ ?_
    · refine ts_iconst rfl dX12_twoOf_230 ?_
      exact td_iret rfl dX12_twoOf_231
    · refine ts_iconst rfl dX12_twoOf_226 ?_
      refine ts_goto (tgt := 231) rfl dX12_twoOf_227 ?_
      exact td_iret rfl dX12_twoOf_231
  · refine ts_iconst rfl dX12_twoOf_226 ?_
    refine ts_goto (tgt := 231) rfl dX12_twoOf_227 ?_
    exact td_iret rfl dX12_twoOf_231
def F_X12_twoOf (a0 : Int) (a1 : Int) (a2 : Int) (D : td_D) : Option (Int × td_D) :=
  if a0 = 37 then
    if a2 = 0 then
      some (0, D)
    else
      if a2 = (-1) then
        some (0, D)
      else
        if a2 = 0 then none else
          some (tv_rem a1 a2, D)
  else if a0 = 38 then
    if a1 = 0 then
      some (0, D)
    else
      if a2 = 0 then
        some (0, D)
      else
        some (1, D)
  else if a0 = 39 then
    F_X12_twoOf_218 a1 a2 D
  else if a0 = 40 then
    F_X12_twoOf_218 a1 a2 D
  else if a0 = 41 then
    F_X12_twoOf_218 a1 a2 D
  else if a0 = 42 then
    some (tv_w (a1 * a2), D)
  else if a0 = 43 then
    some (tv_w (a1 + a2), D)
  else if a0 = 44 then
    F_X12_twoOf_218 a1 a2 D
  else if a0 = 45 then
    some (tv_w (a1 - a2), D)
  else if a0 = 46 then
    F_X12_twoOf_218 a1 a2 D
  else if a0 = 47 then
    if a2 = 0 then
      some (0, D)
    else
      if a2 = (-1) then
        some (tv_w (-a1), D)
      else
        if a2 = 0 then none else
          some (tv_div a1 a2, D)
  else if a0 = 48 then
    F_X12_twoOf_218 a1 a2 D
  else if a0 = 49 then
    F_X12_twoOf_218 a1 a2 D
  else if a0 = 50 then
    F_X12_twoOf_218 a1 a2 D
  else if a0 = 51 then
    F_X12_twoOf_218 a1 a2 D
  else if a0 = 52 then
    F_X12_twoOf_218 a1 a2 D
  else if a0 = 53 then
    F_X12_twoOf_218 a1 a2 D
  else if a0 = 54 then
    F_X12_twoOf_218 a1 a2 D
  else if a0 = 55 then
    F_X12_twoOf_218 a1 a2 D
  else if a0 = 56 then
    F_X12_twoOf_218 a1 a2 D
  else if a0 = 57 then
    F_X12_twoOf_218 a1 a2 D
  else if a0 = 58 then
    F_X12_twoOf_218 a1 a2 D
  else if a0 = 59 then
    F_X12_twoOf_218 a1 a2 D
  else if a0 = 60 then
    if a2 ≤ a1 then
      some (0, D)
    else
      some (1, D)
  else if a0 = 61 then
    if a1 = a2 then
      some (1, D)
    else
      some (0, D)
  else if a0 = 62 then
    if a1 ≤ a2 then
      some (0, D)
    else
      some (1, D)
  else
    F_X12_twoOf_218 a1 a2 D
set_option maxHeartbeats 4000000 in
set_option maxRecDepth 20000 in
theorem S_X12_twoOf (l : Launch) {E : tv_E} (hE : tv_hE E) (d : Nat) (a0 : Int) (a1 : Int) (a2 : Int) (D : td_D) : td_msim l E (d + 0) mX12_twoOf g_m [tv_I a0, tv_I a1, tv_I a2] D (F_X12_twoOf a0 a1 a2 D) := by
  refine td_meetL (ls := [tv_I a0, tv_I a1, tv_I a2]) rfl (Nat.le_of_ble_eq_true rfl) rfl ?_
  unfold F_X12_twoOf
  refine ts_iload_n (i := 0) rfl rfl dX12_twoOf_0 ?_
  refine td_ite (fun h1 => ?_) (fun h1 => ?_)
  · refine ts_tabIn (i := 0) (tgt := 154) (by omega) (by omega) rfl rfl dX12_twoOf_1 ?_
    refine ts_iload_n (i := 2) rfl rfl dX12_twoOf_154 ?_
    refine td_if_eq (tgt := 163) rfl dX12_twoOf_155 ?_ ?_
    · refine ts_iconst rfl dX12_twoOf_163 ?_
      refine ts_goto (tgt := 170) rfl dX12_twoOf_164 ?_
      exact td_iret rfl dX12_twoOf_170
    · refine ts_iload_n (i := 2) rfl rfl dX12_twoOf_158 ?_
      refine ts_iconst rfl dX12_twoOf_159 ?_
      refine td_icmp_ne (tgt := 167) rfl dX12_twoOf_160 ?_ ?_
      · refine ts_iconst rfl dX12_twoOf_163 ?_
        refine ts_goto (tgt := 170) rfl dX12_twoOf_164 ?_
        exact td_iret rfl dX12_twoOf_170
      · refine ts_iload_n (i := 1) rfl rfl dX12_twoOf_167 ?_
        refine ts_iload_n (i := 2) rfl rfl dX12_twoOf_168 ?_
        refine td_ite (fun _ => tv_none) (fun h2 => ?_)
        refine td_iremK h2 dX12_twoOf_169 ?_
        exact td_iret rfl dX12_twoOf_170
  refine td_ite (fun h3 => ?_) (fun h3 => ?_)
  · refine ts_tabIn (i := 1) (tgt := 204) (by omega) (by omega) rfl rfl dX12_twoOf_1 ?_
    refine ts_iload_n (i := 1) rfl rfl dX12_twoOf_204 ?_
    refine td_if_eq (tgt := 216) rfl dX12_twoOf_205 ?_ ?_
    · refine ts_iconst rfl dX12_twoOf_216 ?_
      exact td_iret rfl dX12_twoOf_217
    · refine ts_iload_n (i := 2) rfl rfl dX12_twoOf_208 ?_
      refine td_if_eq (tgt := 216) rfl dX12_twoOf_209 ?_ ?_
      · refine ts_iconst rfl dX12_twoOf_216 ?_
        exact td_iret rfl dX12_twoOf_217
      · refine ts_iconst rfl dX12_twoOf_212 ?_
        refine ts_goto (tgt := 217) rfl dX12_twoOf_213 ?_
        exact td_iret rfl dX12_twoOf_217
  refine td_ite (fun h4 => ?_) (fun h4 => ?_)
  · refine ts_tabIn (i := 2) (tgt := 218) (by omega) (by omega) rfl rfl dX12_twoOf_1 ?_
    refine tv_weak (ls' := [tv_U, tv_I a1, tv_I a2]) ⟨Or.inl rfl, Or.inr rfl, Or.inr rfl, trivial⟩ ?_
    exact S_X12_twoOf_218 hE d a1 a2 D
  refine td_ite (fun h5 => ?_) (fun h5 => ?_)
  · refine ts_tabIn (i := 3) (tgt := 218) (by omega) (by omega) rfl rfl dX12_twoOf_1 ?_
    refine tv_weak (ls' := [tv_U, tv_I a1, tv_I a2]) ⟨Or.inl rfl, Or.inr rfl, Or.inr rfl, trivial⟩ ?_
    exact S_X12_twoOf_218 hE d a1 a2 D
  refine td_ite (fun h6 => ?_) (fun h6 => ?_)
  · refine ts_tabIn (i := 4) (tgt := 218) (by omega) (by omega) rfl rfl dX12_twoOf_1 ?_
    refine tv_weak (ls' := [tv_U, tv_I a1, tv_I a2]) ⟨Or.inl rfl, Or.inr rfl, Or.inr rfl, trivial⟩ ?_
    exact S_X12_twoOf_218 hE d a1 a2 D
  refine td_ite (fun h7 => ?_) (fun h7 => ?_)
  · refine ts_tabIn (i := 5) (tgt := 128) (by omega) (by omega) rfl rfl dX12_twoOf_1 ?_
    refine ts_iload_n (i := 1) rfl rfl dX12_twoOf_128 ?_
    refine ts_iload_n (i := 2) rfl rfl dX12_twoOf_129 ?_
    refine ts_imul dX12_twoOf_130 ?_
    exact td_iret rfl dX12_twoOf_131
  refine td_ite (fun h8 => ?_) (fun h8 => ?_)
  · refine ts_tabIn (i := 6) (tgt := 120) (by omega) (by omega) rfl rfl dX12_twoOf_1 ?_
    refine ts_iload_n (i := 1) rfl rfl dX12_twoOf_120 ?_
    refine ts_iload_n (i := 2) rfl rfl dX12_twoOf_121 ?_
    refine ts_iadd dX12_twoOf_122 ?_
    exact td_iret rfl dX12_twoOf_123
  refine td_ite (fun h9 => ?_) (fun h9 => ?_)
  · refine ts_tabIn (i := 7) (tgt := 218) (by omega) (by omega) rfl rfl dX12_twoOf_1 ?_
    refine tv_weak (ls' := [tv_U, tv_I a1, tv_I a2]) ⟨Or.inl rfl, Or.inr rfl, Or.inr rfl, trivial⟩ ?_
    exact S_X12_twoOf_218 hE d a1 a2 D
  refine td_ite (fun h10 => ?_) (fun h10 => ?_)
  · refine ts_tabIn (i := 8) (tgt := 124) (by omega) (by omega) rfl rfl dX12_twoOf_1 ?_
    refine ts_iload_n (i := 1) rfl rfl dX12_twoOf_124 ?_
    refine ts_iload_n (i := 2) rfl rfl dX12_twoOf_125 ?_
    refine ts_isub dX12_twoOf_126 ?_
    exact td_iret rfl dX12_twoOf_127
  refine td_ite (fun h11 => ?_) (fun h11 => ?_)
  · refine ts_tabIn (i := 9) (tgt := 218) (by omega) (by omega) rfl rfl dX12_twoOf_1 ?_
    refine tv_weak (ls' := [tv_U, tv_I a1, tv_I a2]) ⟨Or.inl rfl, Or.inr rfl, Or.inr rfl, trivial⟩ ?_
    exact S_X12_twoOf_218 hE d a1 a2 D
  refine td_ite (fun h12 => ?_) (fun h12 => ?_)
  · refine ts_tabIn (i := 10) (tgt := 132) (by omega) (by omega) rfl rfl dX12_twoOf_1 ?_
    refine ts_iload_n (i := 2) rfl rfl dX12_twoOf_132 ?_
    refine td_if_ne (tgt := 140) rfl dX12_twoOf_133 ?_ ?_
    · refine ts_iconst rfl dX12_twoOf_136 ?_
      refine ts_goto (tgt := 153) rfl dX12_twoOf_137 ?_
      exact td_iret rfl dX12_twoOf_153
    · refine ts_iload_n (i := 2) rfl rfl dX12_twoOf_140 ?_
      refine ts_iconst rfl dX12_twoOf_141 ?_
      refine td_icmp_ne (tgt := 150) rfl dX12_twoOf_142 ?_ ?_
      · refine ts_iload_n (i := 1) rfl rfl dX12_twoOf_145 ?_
        refine ts_ineg dX12_twoOf_146 ?_
        refine ts_goto (tgt := 153) rfl dX12_twoOf_147 ?_
        exact td_iret rfl dX12_twoOf_153
      · refine ts_iload_n (i := 1) rfl rfl dX12_twoOf_150 ?_
        refine ts_iload_n (i := 2) rfl rfl dX12_twoOf_151 ?_
        refine td_ite (fun _ => tv_none) (fun h13 => ?_)
        refine td_idivK h13 dX12_twoOf_152 ?_
        exact td_iret rfl dX12_twoOf_153
  refine td_ite (fun h14 => ?_) (fun h14 => ?_)
  · refine ts_tabIn (i := 11) (tgt := 218) (by omega) (by omega) rfl rfl dX12_twoOf_1 ?_
    refine tv_weak (ls' := [tv_U, tv_I a1, tv_I a2]) ⟨Or.inl rfl, Or.inr rfl, Or.inr rfl, trivial⟩ ?_
    exact S_X12_twoOf_218 hE d a1 a2 D
  refine td_ite (fun h15 => ?_) (fun h15 => ?_)
  · refine ts_tabIn (i := 12) (tgt := 218) (by omega) (by omega) rfl rfl dX12_twoOf_1 ?_
    refine tv_weak (ls' := [tv_U, tv_I a1, tv_I a2]) ⟨Or.inl rfl, Or.inr rfl, Or.inr rfl, trivial⟩ ?_
    exact S_X12_twoOf_218 hE d a1 a2 D
  refine td_ite (fun h16 => ?_) (fun h16 => ?_)
  · refine ts_tabIn (i := 13) (tgt := 218) (by omega) (by omega) rfl rfl dX12_twoOf_1 ?_
    refine tv_weak (ls' := [tv_U, tv_I a1, tv_I a2]) ⟨Or.inl rfl, Or.inr rfl, Or.inr rfl, trivial⟩ ?_
    exact S_X12_twoOf_218 hE d a1 a2 D
  refine td_ite (fun h17 => ?_) (fun h17 => ?_)
  · refine ts_tabIn (i := 14) (tgt := 218) (by omega) (by omega) rfl rfl dX12_twoOf_1 ?_
    refine tv_weak (ls' := [tv_U, tv_I a1, tv_I a2]) ⟨Or.inl rfl, Or.inr rfl, Or.inr rfl, trivial⟩ ?_
    exact S_X12_twoOf_218 hE d a1 a2 D
  refine td_ite (fun h18 => ?_) (fun h18 => ?_)
  · refine ts_tabIn (i := 15) (tgt := 218) (by omega) (by omega) rfl rfl dX12_twoOf_1 ?_
    refine tv_weak (ls' := [tv_U, tv_I a1, tv_I a2]) ⟨Or.inl rfl, Or.inr rfl, Or.inr rfl, trivial⟩ ?_
    exact S_X12_twoOf_218 hE d a1 a2 D
  refine td_ite (fun h19 => ?_) (fun h19 => ?_)
  · refine ts_tabIn (i := 16) (tgt := 218) (by omega) (by omega) rfl rfl dX12_twoOf_1 ?_
    refine tv_weak (ls' := [tv_U, tv_I a1, tv_I a2]) ⟨Or.inl rfl, Or.inr rfl, Or.inr rfl, trivial⟩ ?_
    exact S_X12_twoOf_218 hE d a1 a2 D
  refine td_ite (fun h20 => ?_) (fun h20 => ?_)
  · refine ts_tabIn (i := 17) (tgt := 218) (by omega) (by omega) rfl rfl dX12_twoOf_1 ?_
    refine tv_weak (ls' := [tv_U, tv_I a1, tv_I a2]) ⟨Or.inl rfl, Or.inr rfl, Or.inr rfl, trivial⟩ ?_
    exact S_X12_twoOf_218 hE d a1 a2 D
  refine td_ite (fun h21 => ?_) (fun h21 => ?_)
  · refine ts_tabIn (i := 18) (tgt := 218) (by omega) (by omega) rfl rfl dX12_twoOf_1 ?_
    refine tv_weak (ls' := [tv_U, tv_I a1, tv_I a2]) ⟨Or.inl rfl, Or.inr rfl, Or.inr rfl, trivial⟩ ?_
    exact S_X12_twoOf_218 hE d a1 a2 D
  refine td_ite (fun h22 => ?_) (fun h22 => ?_)
  · refine ts_tabIn (i := 19) (tgt := 218) (by omega) (by omega) rfl rfl dX12_twoOf_1 ?_
    refine tv_weak (ls' := [tv_U, tv_I a1, tv_I a2]) ⟨Or.inl rfl, Or.inr rfl, Or.inr rfl, trivial⟩ ?_
    exact S_X12_twoOf_218 hE d a1 a2 D
  refine td_ite (fun h23 => ?_) (fun h23 => ?_)
  · refine ts_tabIn (i := 20) (tgt := 218) (by omega) (by omega) rfl rfl dX12_twoOf_1 ?_
    refine tv_weak (ls' := [tv_U, tv_I a1, tv_I a2]) ⟨Or.inl rfl, Or.inr rfl, Or.inr rfl, trivial⟩ ?_
    exact S_X12_twoOf_218 hE d a1 a2 D
  refine td_ite (fun h24 => ?_) (fun h24 => ?_)
  · refine ts_tabIn (i := 21) (tgt := 218) (by omega) (by omega) rfl rfl dX12_twoOf_1 ?_
    refine tv_weak (ls' := [tv_U, tv_I a1, tv_I a2]) ⟨Or.inl rfl, Or.inr rfl, Or.inr rfl, trivial⟩ ?_
    exact S_X12_twoOf_218 hE d a1 a2 D
  refine td_ite (fun h25 => ?_) (fun h25 => ?_)
  · refine ts_tabIn (i := 22) (tgt := 218) (by omega) (by omega) rfl rfl dX12_twoOf_1 ?_
    refine tv_weak (ls' := [tv_U, tv_I a1, tv_I a2]) ⟨Or.inl rfl, Or.inr rfl, Or.inr rfl, trivial⟩ ?_
    exact S_X12_twoOf_218 hE d a1 a2 D
  refine td_ite (fun h26 => ?_) (fun h26 => ?_)
  · refine ts_tabIn (i := 23) (tgt := 171) (by omega) (by omega) rfl rfl dX12_twoOf_1 ?_
    refine ts_iload_n (i := 1) rfl rfl dX12_twoOf_171 ?_
    refine ts_iload_n (i := 2) rfl rfl dX12_twoOf_172 ?_
    refine td_icmp_ge (tgt := 180) rfl dX12_twoOf_173 ?_ ?_
    · refine ts_iconst rfl dX12_twoOf_180 ?_
      exact td_iret rfl dX12_twoOf_181
    · refine ts_iconst rfl dX12_twoOf_176 ?_
      refine ts_goto (tgt := 181) rfl dX12_twoOf_177 ?_
      exact td_iret rfl dX12_twoOf_181
  refine td_ite (fun h27 => ?_) (fun h27 => ?_)
  · refine ts_tabIn (i := 24) (tgt := 182) (by omega) (by omega) rfl rfl dX12_twoOf_1 ?_
    refine ts_iload_n (i := 1) rfl rfl dX12_twoOf_182 ?_
    refine ts_iload_n (i := 2) rfl rfl dX12_twoOf_183 ?_
    refine td_icmp_ne (tgt := 191) rfl dX12_twoOf_184 ?_ ?_
    · refine ts_iconst rfl dX12_twoOf_187 ?_
      refine ts_goto (tgt := 192) rfl dX12_twoOf_188 ?_
      exact td_iret rfl dX12_twoOf_192
    · refine ts_iconst rfl dX12_twoOf_191 ?_
      exact td_iret rfl dX12_twoOf_192
  refine td_ite (fun h28 => ?_) (fun h28 => ?_)
  · refine ts_tabIn (i := 25) (tgt := 193) (by omega) (by omega) rfl rfl dX12_twoOf_1 ?_
    refine ts_iload_n (i := 1) rfl rfl dX12_twoOf_193 ?_
    refine ts_iload_n (i := 2) rfl rfl dX12_twoOf_194 ?_
    refine td_icmp_le (tgt := 202) rfl dX12_twoOf_195 ?_ ?_
    · refine ts_iconst rfl dX12_twoOf_202 ?_
      exact td_iret rfl dX12_twoOf_203
    · refine ts_iconst rfl dX12_twoOf_198 ?_
      refine ts_goto (tgt := 203) rfl dX12_twoOf_199 ?_
      exact td_iret rfl dX12_twoOf_203
  refine ts_tabOut (tgt := 218) (by omega) rfl dX12_twoOf_1 ?_
  refine tv_weak (ls' := [tv_U, tv_I a1, tv_I a2]) ⟨Or.inl rfl, Or.inr rfl, Or.inr rfl, trivial⟩ ?_
  exact S_X12_twoOf_218 hE d a1 a2 D
def F_X12_worked_45 (k12 : Int → Int → Int → Int → td_D → Option (Int × td_D)) (v1 : Int) (v3 : Int) (v4 : Int) (v5 : Int) (v6 : Int) (D : td_D) : Option (Int × td_D) :=
  if v6 = 1 then
    if 0 ≤ v5 ∧ v5 < ((260 : Nat) : Int) then
      if 0 ≤ v4 ∧ v4 < ((130 : Nat) : Int) then
        td_l (td_upd D 20 (Int.toNat v4) (D 15 (Int.toNat v5))) fun D3 =>
        k12 v1 v3 (tv_w (v4 + 1)) (tv_w (v5 + 1)) D3
      else none
    else none
  else
    if 0 ≤ v5 ∧ v5 < ((260 : Nat) : Int) then
      if 0 ≤ D 15 (Int.toNat v5) ∧ D 15 (Int.toNat v5) < ((6 : Nat) : Int) then
        if 0 ≤ v4 ∧ v4 < ((130 : Nat) : Int) then
          td_l (td_upd D 20 (Int.toNat v4) (D 19 (Int.toNat (D 15 (Int.toNat v5))))) fun D7 =>
          k12 v1 v3 (tv_w (v4 + 1)) (tv_w (v5 + 1)) D7
        else none
      else none
    else none
set_option maxHeartbeats 4000000 in
set_option maxRecDepth 20000 in
theorem S_X12_worked_45 {l : Launch} {E : tv_E} (hE : tv_hE E) (d : Nat) (k12 : Int → Int → Int → Int → td_D → Option (Int × td_D)) (hk12 : ∀ (v1 : Int) (v3 : Int) (v4 : Int) (v5 : Int) (D : td_D), td_sim l E (d + 1) mX12_worked g_m 12 [tv_R 1, tv_I v1, tv_U, tv_I v3, tv_I v4, tv_I v5, tv_U] [] D (k12 v1 v3 v4 v5 D)) (v1 : Int) (v3 : Int) (v4 : Int) (v5 : Int) (v6 : Int) (D : td_D) : td_sim l E (d + 1) mX12_worked g_m 45 [tv_R 1, tv_I v1, tv_U, tv_I v3, tv_I v4, tv_I v5, tv_I v6] [] D (F_X12_worked_45 k12 v1 v3 v4 v5 v6 D) := by
  unfold F_X12_worked_45
  refine ts_aload_n (i := 0) rfl rfl dX12_worked_45 ?_
  refine td_getR (q := 20) tl_X12_66 rfl ga_m_1 rfl dX12_worked_46 ?_
  refine ts_iload rfl dX12_worked_49 ?_
  refine ts_iload rfl dX12_worked_51 ?_
  refine ts_iconst rfl dX12_worked_53 ?_
  refine td_icmp_ne (tgt := 67) rfl dX12_worked_54 ?_ ?_
  · refine ts_aload_n (i := 0) rfl rfl dX12_worked_57 ?_
    refine td_getR (q := 15) tl_X12_50 rfl ga_m_1 rfl dX12_worked_58 ?_
    refine ts_iload rfl dX12_worked_61 ?_
    refine td_guard (fun h1 => ?_)
    refine td_ialdK ga_m_15 (gn_m_15 _) h1 dX12_worked_63 ?_
    refine ts_goto (tgt := 79) rfl dX12_worked_64 ?_
    refine td_guard (fun h2 => ?_)
    refine td_iastK ga_m_20 (gn_m_20 _) h2 dX12_worked_79 ?_
    refine td_let (fun D3 => ?_)
    refine tq_iinc [tv_R 1, tv_I v1, tv_U, tv_I v3, tv_I (tv_w (v4 + 1)), tv_I v5, tv_I v6] rfl rfl rfl dX12_worked_80 ?_
    refine ts_goto (tgt := 182) rfl dX12_worked_83 ?_
    refine tq_iinc [tv_R 1, tv_I v1, tv_U, tv_I v3, tv_I (tv_w (v4 + 1)), tv_I (tv_w (v5 + 1)), tv_I v6] rfl rfl rfl dX12_worked_182 ?_
    refine ts_goto (tgt := 12) rfl dX12_worked_185 ?_
    refine tv_weak (ls' := [tv_R 1, tv_I v1, tv_U, tv_I v3, tv_I (tv_w (v4 + 1)), tv_I (tv_w (v5 + 1)), tv_U]) ⟨Or.inr rfl, Or.inr rfl, Or.inl rfl, Or.inr rfl, Or.inr rfl, Or.inr rfl, Or.inl rfl, trivial⟩ ?_
    exact hk12 v1 v3 (tv_w (v4 + 1)) (tv_w (v5 + 1)) D3
  · refine ts_aload_n (i := 0) rfl rfl dX12_worked_67 ?_
    refine td_getR (q := 19) tl_X12_63 rfl ga_m_1 rfl dX12_worked_68 ?_
    refine ts_aload_n (i := 0) rfl rfl dX12_worked_71 ?_
    refine td_getR (q := 15) tl_X12_50 rfl ga_m_1 rfl dX12_worked_72 ?_
    refine ts_iload rfl dX12_worked_75 ?_
    refine td_guard (fun h4 => ?_)
    refine td_ialdK ga_m_15 (gn_m_15 _) h4 dX12_worked_77 ?_
    refine td_guard (fun h5 => ?_)
    refine td_ialdK ga_m_19 (gn_m_19 _) h5 dX12_worked_78 ?_
    refine td_guard (fun h6 => ?_)
    refine td_iastK ga_m_20 (gn_m_20 _) h6 dX12_worked_79 ?_
    refine td_let (fun D7 => ?_)
    refine tq_iinc [tv_R 1, tv_I v1, tv_U, tv_I v3, tv_I (tv_w (v4 + 1)), tv_I v5, tv_I v6] rfl rfl rfl dX12_worked_80 ?_
    refine ts_goto (tgt := 182) rfl dX12_worked_83 ?_
    refine tq_iinc [tv_R 1, tv_I v1, tv_U, tv_I v3, tv_I (tv_w (v4 + 1)), tv_I (tv_w (v5 + 1)), tv_I v6] rfl rfl rfl dX12_worked_182 ?_
    refine ts_goto (tgt := 12) rfl dX12_worked_185 ?_
    refine tv_weak (ls' := [tv_R 1, tv_I v1, tv_U, tv_I v3, tv_I (tv_w (v4 + 1)), tv_I (tv_w (v5 + 1)), tv_U]) ⟨Or.inr rfl, Or.inr rfl, Or.inl rfl, Or.inr rfl, Or.inr rfl, Or.inr rfl, Or.inl rfl, trivial⟩ ?_
    exact hk12 v1 v3 (tv_w (v4 + 1)) (tv_w (v5 + 1)) D7
def F_X12_worked_12 : Nat → Int → Int → Int → Int → td_D → Option (Int × td_D)
  | 0, _, _, _, _, _ => none
  | n + 1, v1, v3, v4, v5, D =>
    if tv_w ((tv_w (130 * v1)) + v3) ≤ v5 then
      some (D 20 (Int.toNat 0), D)
    else
      if 0 ≤ v5 ∧ v5 < ((260 : Nat) : Int) then
        if D 14 (Int.toNat v5) = 1 then
          F_X12_worked_45 (fun v1 v3 v4 v5 D => F_X12_worked_12 n v1 v3 v4 v5 D) v1 v3 v4 v5 (D 14 (Int.toNat v5)) D
        else
          if D 14 (Int.toNat v5) = 2 then
            F_X12_worked_45 (fun v1 v3 v4 v5 D => F_X12_worked_12 n v1 v3 v4 v5 D) v1 v3 v4 v5 (D 14 (Int.toNat v5)) D
          else
            if D 14 (Int.toNat v5) = 3 then
              if 0 ≤ tv_w (v4 - 1) ∧ tv_w (v4 - 1) < ((130 : Nat) : Int) then
                if D 20 (Int.toNat (tv_w (v4 - 1))) = 0 then
                  td_l (td_upd D 20 (Int.toNat (tv_w (v4 - 1))) 1) fun D10 =>
                  F_X12_worked_12 n v1 v3 v4 (tv_w (v5 + 1)) D10
                else
                  td_l (td_upd D 20 (Int.toNat (tv_w (v4 - 1))) 0) fun D11 =>
                  F_X12_worked_12 n v1 v3 v4 (tv_w (v5 + 1)) D11
              else none
            else
              if D 14 (Int.toNat v5) = 4 then
                if 0 ≤ tv_w (v4 - 1) ∧ tv_w (v4 - 1) < ((130 : Nat) : Int) then
                  td_l (td_upd D 20 (Int.toNat (tv_w (v4 - 1))) (tv_w (-(D 20 (Int.toNat (tv_w (v4 - 1))))))) fun D13 =>
                  F_X12_worked_12 n v1 v3 v4 (tv_w (v5 + 1)) D13
                else none
              else
                if 0 ≤ tv_w ((tv_w (v4 + (-1))) - 1) ∧ tv_w ((tv_w (v4 + (-1))) - 1) < ((130 : Nat) : Int) then
                  if 0 ≤ tv_w (v4 + (-1)) ∧ tv_w (v4 + (-1)) < ((130 : Nat) : Int) then
                    td_b (F_X12_twoOf (D 14 (Int.toNat v5)) (D 20 (Int.toNat (tv_w ((tv_w (v4 + (-1))) - 1)))) (D 20 (Int.toNat (tv_w (v4 + (-1))))) D) fun r16 D17 =>
                    td_l (td_upd D17 20 (Int.toNat (tv_w ((tv_w (v4 + (-1))) - 1))) r16) fun D18 =>
                    F_X12_worked_12 n v1 v3 (tv_w (v4 + (-1))) (tv_w (v5 + 1)) D18
                  else none
                else none
      else none
set_option maxHeartbeats 4000000 in
set_option maxRecDepth 20000 in
theorem S_X12_worked_12 {l : Launch} {E : tv_E} (hE : tv_hE E) (d : Nat) : ∀ (n : Nat) (v1 : Int) (v3 : Int) (v4 : Int) (v5 : Int) (D : td_D), td_sim l E (d + 1) mX12_worked g_m 12 [tv_R 1, tv_I v1, tv_U, tv_I v3, tv_I v4, tv_I v5, tv_U] [] D (F_X12_worked_12 n v1 v3 v4 v5 D) := by
  intro n
  induction n with
  | zero => intros; exact tv_none
  | succ n ih =>
    intro v1 v3 v4 v5 D
    show td_sim _ _ _ _ _ _ _ _ _ (F_X12_worked_12 (n + 1) v1 v3 v4 v5 D)
    unfold F_X12_worked_12
    refine ts_iload rfl dX12_worked_12 ?_
    refine ts_sipush rfl dX12_worked_14 ?_
    refine ts_iload_n (i := 1) rfl rfl dX12_worked_17 ?_
    refine ts_imul dX12_worked_18 ?_
    refine ts_iload_n (i := 3) rfl rfl dX12_worked_19 ?_
    refine ts_iadd dX12_worked_20 ?_
    refine td_icmp_ge (tgt := 188) rfl dX12_worked_21 ?_ ?_
    · refine ts_aload_n (i := 0) rfl rfl dX12_worked_188 ?_
      refine td_getR (q := 20) tl_X12_66 rfl ga_m_1 rfl dX12_worked_189 ?_
      refine ts_iconst rfl dX12_worked_192 ?_
      refine td_ialdK ga_m_20 (gn_m_20 _) ⟨by decide, by decide⟩ dX12_worked_193 ?_
      exact td_iret rfl dX12_worked_194
    · refine ts_aload_n (i := 0) rfl rfl dX12_worked_24 ?_
      refine td_getR (q := 14) tl_X12_47 rfl ga_m_1 rfl dX12_worked_25 ?_
      refine ts_iload rfl dX12_worked_28 ?_
      refine td_guard (fun h8 => ?_)
      refine td_baldK ga_m_14 (gn_m_14 _) h8 dX12_worked_30 ?_
      refine tq_istore [tv_R 1, tv_I v1, tv_U, tv_I v3, tv_I v4, tv_I v5, tv_I (D 14 (Int.toNat v5))] (Nat.le_of_ble_eq_true rfl) rfl rfl dX12_worked_31 ?_
      refine ts_iload rfl dX12_worked_33 ?_
      refine ts_iconst rfl dX12_worked_35 ?_
      refine td_icmp_eq (tgt := 45) rfl dX12_worked_36 ?_ ?_
      · exact S_X12_worked_45 hE d (fun v1 v3 v4 v5 D => F_X12_worked_12 n v1 v3 v4 v5 D) (fun v1 v3 v4 v5 D => ih v1 v3 v4 v5 D) v1 v3 v4 v5 (D 14 (Int.toNat v5)) D
      · refine ts_iload rfl dX12_worked_39 ?_
        refine ts_iconst rfl dX12_worked_41 ?_
        refine td_icmp_ne (tgt := 86) rfl dX12_worked_42 ?_ ?_
        · exact S_X12_worked_45 hE d (fun v1 v3 v4 v5 D => F_X12_worked_12 n v1 v3 v4 v5 D) (fun v1 v3 v4 v5 D => ih v1 v3 v4 v5 D) v1 v3 v4 v5 (D 14 (Int.toNat v5)) D
        · refine ts_iload rfl dX12_worked_86 ?_
          refine ts_iconst rfl dX12_worked_88 ?_
          refine td_icmp_ne (tgt := 121) rfl dX12_worked_89 ?_ ?_
          · refine ts_aload_n (i := 0) rfl rfl dX12_worked_92 ?_
            refine td_getR (q := 20) tl_X12_66 rfl ga_m_1 rfl dX12_worked_93 ?_
            refine ts_iload rfl dX12_worked_96 ?_
            refine ts_iconst rfl dX12_worked_98 ?_
            refine ts_isub dX12_worked_99 ?_
            refine ts_aload_n (i := 0) rfl rfl dX12_worked_100 ?_
            refine td_getR (q := 20) tl_X12_66 rfl ga_m_1 rfl dX12_worked_101 ?_
            refine ts_iload rfl dX12_worked_104 ?_
            refine ts_iconst rfl dX12_worked_106 ?_
            refine ts_isub dX12_worked_107 ?_
            refine td_guard (fun h9 => ?_)
            refine td_ialdK ga_m_20 (gn_m_20 _) h9 dX12_worked_108 ?_
            refine td_if_ne (tgt := 116) rfl dX12_worked_109 ?_ ?_
            · refine ts_iconst rfl dX12_worked_112 ?_
              refine ts_goto (tgt := 117) rfl dX12_worked_113 ?_
              refine td_iastK ga_m_20 (gn_m_20 _) h9 dX12_worked_117 ?_
              refine td_let (fun D10 => ?_)
              refine ts_goto (tgt := 182) rfl dX12_worked_118 ?_
              refine tq_iinc [tv_R 1, tv_I v1, tv_U, tv_I v3, tv_I v4, tv_I (tv_w (v5 + 1)), tv_I (D 14 (Int.toNat v5))] rfl rfl rfl dX12_worked_182 ?_
              refine ts_goto (tgt := 12) rfl dX12_worked_185 ?_
              refine tv_weak (ls' := [tv_R 1, tv_I v1, tv_U, tv_I v3, tv_I v4, tv_I (tv_w (v5 + 1)), tv_U]) ⟨Or.inr rfl, Or.inr rfl, Or.inl rfl, Or.inr rfl, Or.inr rfl, Or.inr rfl, Or.inl rfl, trivial⟩ ?_
              exact ih v1 v3 v4 (tv_w (v5 + 1)) D10
            · refine ts_iconst rfl dX12_worked_116 ?_
              refine td_iastK ga_m_20 (gn_m_20 _) h9 dX12_worked_117 ?_
              refine td_let (fun D11 => ?_)
              refine ts_goto (tgt := 182) rfl dX12_worked_118 ?_
              refine tq_iinc [tv_R 1, tv_I v1, tv_U, tv_I v3, tv_I v4, tv_I (tv_w (v5 + 1)), tv_I (D 14 (Int.toNat v5))] rfl rfl rfl dX12_worked_182 ?_
              refine ts_goto (tgt := 12) rfl dX12_worked_185 ?_
              refine tv_weak (ls' := [tv_R 1, tv_I v1, tv_U, tv_I v3, tv_I v4, tv_I (tv_w (v5 + 1)), tv_U]) ⟨Or.inr rfl, Or.inr rfl, Or.inl rfl, Or.inr rfl, Or.inr rfl, Or.inr rfl, Or.inl rfl, trivial⟩ ?_
              exact ih v1 v3 v4 (tv_w (v5 + 1)) D11
          · refine ts_iload rfl dX12_worked_121 ?_
            refine ts_iconst rfl dX12_worked_123 ?_
            refine td_icmp_ne (tgt := 149) rfl dX12_worked_124 ?_ ?_
            · refine ts_aload_n (i := 0) rfl rfl dX12_worked_127 ?_
              refine td_getR (q := 20) tl_X12_66 rfl ga_m_1 rfl dX12_worked_128 ?_
              refine ts_iload rfl dX12_worked_131 ?_
              refine ts_iconst rfl dX12_worked_133 ?_
              refine ts_isub dX12_worked_134 ?_
              refine ts_aload_n (i := 0) rfl rfl dX12_worked_135 ?_
              refine td_getR (q := 20) tl_X12_66 rfl ga_m_1 rfl dX12_worked_136 ?_
              refine ts_iload rfl dX12_worked_139 ?_
              refine ts_iconst rfl dX12_worked_141 ?_
              refine ts_isub dX12_worked_142 ?_
              refine td_guard (fun h12 => ?_)
              refine td_ialdK ga_m_20 (gn_m_20 _) h12 dX12_worked_143 ?_
              refine ts_ineg dX12_worked_144 ?_
              refine td_iastK ga_m_20 (gn_m_20 _) h12 dX12_worked_145 ?_
              refine td_let (fun D13 => ?_)
              refine ts_goto (tgt := 182) rfl dX12_worked_146 ?_
              refine tq_iinc [tv_R 1, tv_I v1, tv_U, tv_I v3, tv_I v4, tv_I (tv_w (v5 + 1)), tv_I (D 14 (Int.toNat v5))] rfl rfl rfl dX12_worked_182 ?_
              refine ts_goto (tgt := 12) rfl dX12_worked_185 ?_
              refine tv_weak (ls' := [tv_R 1, tv_I v1, tv_U, tv_I v3, tv_I v4, tv_I (tv_w (v5 + 1)), tv_U]) ⟨Or.inr rfl, Or.inr rfl, Or.inl rfl, Or.inr rfl, Or.inr rfl, Or.inr rfl, Or.inl rfl, trivial⟩ ?_
              exact ih v1 v3 v4 (tv_w (v5 + 1)) D13
            · refine tq_iinc [tv_R 1, tv_I v1, tv_U, tv_I v3, tv_I (tv_w (v4 + (-1))), tv_I v5, tv_I (D 14 (Int.toNat v5))] rfl rfl rfl dX12_worked_149 ?_
              refine ts_aload_n (i := 0) rfl rfl dX12_worked_152 ?_
              refine td_getR (q := 20) tl_X12_66 rfl ga_m_1 rfl dX12_worked_153 ?_
              refine ts_iload rfl dX12_worked_156 ?_
              refine ts_iconst rfl dX12_worked_158 ?_
              refine ts_isub dX12_worked_159 ?_
              refine ts_iload rfl dX12_worked_160 ?_
              refine ts_aload_n (i := 0) rfl rfl dX12_worked_162 ?_
              refine td_getR (q := 20) tl_X12_66 rfl ga_m_1 rfl dX12_worked_163 ?_
              refine ts_iload rfl dX12_worked_166 ?_
              refine ts_iconst rfl dX12_worked_168 ?_
              refine ts_isub dX12_worked_169 ?_
              refine td_guard (fun h14 => ?_)
              refine td_ialdK ga_m_20 (gn_m_20 _) h14 dX12_worked_170 ?_
              refine ts_aload_n (i := 0) rfl rfl dX12_worked_171 ?_
              refine td_getR (q := 20) tl_X12_66 rfl ga_m_1 rfl dX12_worked_172 ?_
              refine ts_iload rfl dX12_worked_175 ?_
              refine td_guard (fun h15 => ?_)
              refine td_ialdK ga_m_20 (gn_m_20 _) h15 dX12_worked_177 ?_
              refine tq_callS (y2 := mX12_twoOf) [tv_I (D 14 (Int.toNat v5)), tv_I (D 20 (Int.toNat (tv_w ((tv_w (v4 + (-1))) - 1)))), tv_I (D 20 (Int.toNat (tv_w (v4 + (-1)))))] [tv_I (tv_w ((tv_w (v4 + (-1))) - 1)), tv_R 20] (st' := fun r16 => [tv_I r16, tv_I (tv_w ((tv_w (v4 + (-1))) - 1)), tv_R 20]) tw_X12_twoOf tx_X12_twoOf tl_X12_264 rfl rfl rfl rfl (fun _ => rfl) dX12_worked_178 (S_X12_twoOf l hE _ (D 14 (Int.toNat v5)) (D 20 (Int.toNat (tv_w ((tv_w (v4 + (-1))) - 1)))) (D 20 (Int.toNat (tv_w (v4 + (-1))))) D) (fun r16 D17 => ?_)
              refine td_iastK ga_m_20 (gn_m_20 _) h14 dX12_worked_181 ?_
              refine td_let (fun D18 => ?_)
              refine tq_iinc [tv_R 1, tv_I v1, tv_U, tv_I v3, tv_I (tv_w (v4 + (-1))), tv_I (tv_w (v5 + 1)), tv_I (D 14 (Int.toNat v5))] rfl rfl rfl dX12_worked_182 ?_
              refine ts_goto (tgt := 12) rfl dX12_worked_185 ?_
              refine tv_weak (ls' := [tv_R 1, tv_I v1, tv_U, tv_I v3, tv_I (tv_w (v4 + (-1))), tv_I (tv_w (v5 + 1)), tv_U]) ⟨Or.inr rfl, Or.inr rfl, Or.inl rfl, Or.inr rfl, Or.inr rfl, Or.inr rfl, Or.inl rfl, trivial⟩ ?_
              exact ih v1 v3 (tv_w (v4 + (-1))) (tv_w (v5 + 1)) D18
def F_X12_worked (a1 : Int) (a2 : Int) (a3 : Int) (D : td_D) : Option (Int × td_D) :=
  F_X12_worked_12 tf_N a1 a3 0 (tv_w ((tv_w (130 * a1)) + a2)) D
set_option maxHeartbeats 4000000 in
set_option maxRecDepth 20000 in
theorem S_X12_worked (l : Launch) {E : tv_E} (hE : tv_hE E) (d : Nat) (a1 : Int) (a2 : Int) (a3 : Int) (D : td_D) : td_msim l E (d + 1) mX12_worked g_m [tv_R 1, tv_I a1, tv_I a2, tv_I a3] D (F_X12_worked a1 a2 a3 D) := by
  refine td_meetL (ls := [tv_R 1, tv_I a1, tv_I a2, tv_I a3, tv_U, tv_U, tv_U]) rfl (Nat.le_of_ble_eq_true rfl) rfl ?_
  unfold F_X12_worked
  refine ts_iconst rfl dX12_worked_0 ?_
  refine tq_istore [tv_R 1, tv_I a1, tv_I a2, tv_I a3, tv_I 0, tv_U, tv_U] (Nat.le_of_ble_eq_true rfl) rfl rfl dX12_worked_1 ?_
  refine ts_sipush rfl dX12_worked_3 ?_
  refine ts_iload_n (i := 1) rfl rfl dX12_worked_6 ?_
  refine ts_imul dX12_worked_7 ?_
  refine ts_iload_n (i := 2) rfl rfl dX12_worked_8 ?_
  refine ts_iadd dX12_worked_9 ?_
  refine tq_istore [tv_R 1, tv_I a1, tv_I a2, tv_I a3, tv_I 0, tv_I (tv_w ((tv_w (130 * a1)) + a2)), tv_U] (Nat.le_of_ble_eq_true rfl) rfl rfl dX12_worked_10 ?_
  refine tv_weak (ls' := [tv_R 1, tv_I a1, tv_U, tv_I a3, tv_I 0, tv_I (tv_w ((tv_w (130 * a1)) + a2)), tv_U]) ⟨Or.inr rfl, Or.inr rfl, Or.inl rfl, Or.inr rfl, Or.inr rfl, Or.inr rfl, Or.inl rfl, trivial⟩ ?_
  exact S_X12_worked_12 hE d tf_N a1 a3 0 (tv_w ((tv_w (130 * a1)) + a2)) D
