def F_X12_takes (a1 : Int) (a2 : Int) (D : td_D) : Option (Int × td_D) :=
  td_b (F_X12_areHis a1 D) fun r1 D2 =>
  if r1 = 0 then
    some ((-1), D2)
  else
    td_b (F_X12_in a2 1 99 D2) fun r3 D4 =>
    if r3 = 0 then
      some ((-1), D4)
    else
      if 0 ≤ tv_w ((tv_w (6 * (tv_div a1 10))) + (tv_rem a1 10)) ∧ tv_w ((tv_w (6 * (tv_div a1 10))) + (tv_rem a1 10)) < ((30 : Nat) : Int) then
        if D4 4 (Int.toNat (tv_w ((tv_w (6 * (tv_div a1 10))) + (tv_rem a1 10)))) < a2 then
          some ((-5), D4)
        else
          if 0 ≤ tv_rem a1 10 ∧ tv_rem a1 10 < ((6 : Nat) : Int) then
            if tv_w ((D4 2 (Int.toNat (tv_rem a1 10))) + a2) ≤ 99 then
              td_l (td_upd D4 4 (Int.toNat (tv_w ((tv_w (6 * (tv_div a1 10))) + (tv_rem a1 10)))) (tv_w ((D4 4 (Int.toNat (tv_w ((tv_w (6 * (tv_div a1 10))) + (tv_rem a1 10))))) - a2))) fun D7 =>
              td_l (td_upd D7 2 (Int.toNat (tv_rem a1 10)) (tv_w ((D7 2 (Int.toNat (tv_rem a1 10))) + a2))) fun D8 =>
              td_l (td_upd D8 31 (Int.toNat 0) (tv_w ((D8 31 (Int.toNat 0)) + a2))) fun D9 =>
              some (D9 2 (Int.toNat (tv_rem a1 10)), D9)
            else
              some ((-5), D4)
          else none
      else none
set_option maxHeartbeats 4000000 in
set_option maxRecDepth 20000 in
theorem S_X12_takes (l : Launch) {E : tv_E} (hE : tv_hE E) (d : Nat) (a1 : Int) (a2 : Int) (D : td_D) : td_msim l E (d + 3) mX12_takes g_m [tv_R 1, tv_I a1, tv_I a2] D (F_X12_takes a1 a2 D) := by
  refine td_meetL (ls := [tv_R 1, tv_I a1, tv_I a2, tv_U]) rfl (Nat.le_of_ble_eq_true rfl) rfl ?_
  unfold F_X12_takes
  refine ts_aload_n (i := 0) rfl rfl dX12_takes_0 ?_
  refine ts_iload_n (i := 1) rfl rfl dX12_takes_1 ?_
  refine tq_callV (y2 := mX12_areHis) [tv_I a1] [] 1 (st' := fun r1 => [tv_I r1]) tw_X12_areHis tx_X12_areHis tw_c12 ga_m_1 tl_X12_191 rfl rfl rfl rfl (fun _ => rfl) dX12_takes_2 (S_X12_areHis l hE _ a1 D) (fun r1 D2 => ?_)
  refine td_if_eq (tgt := 18) rfl dX12_takes_5 ?_ ?_
  · refine ts_iconst rfl dX12_takes_18 ?_
    exact td_iret rfl dX12_takes_19
  · refine ts_iload_n (i := 2) rfl rfl dX12_takes_8 ?_
    refine ts_iconst rfl dX12_takes_9 ?_
    refine ts_bipush rfl dX12_takes_10 ?_
    refine tq_callS (y2 := mX12_in) [tv_I a2, tv_I 1, tv_I 99] [] (st' := fun r3 => [tv_I r3]) tw_X12_in tx_X12_in tl_X12_142 rfl rfl rfl rfl (fun _ => rfl) dX12_takes_12 (S_X12_in l hE _ a2 1 99 D2) (fun r3 D4 => ?_)
    refine td_if_ne (tgt := 20) rfl dX12_takes_15 ?_ ?_
    · refine ts_iconst rfl dX12_takes_18 ?_
      exact td_iret rfl dX12_takes_19
    · refine ts_bipush rfl dX12_takes_20 ?_
      refine ts_iload_n (i := 1) rfl rfl dX12_takes_22 ?_
      refine ts_bipush rfl dX12_takes_23 ?_
      refine td_idivK (by decide) dX12_takes_25 ?_
      refine ts_imul dX12_takes_26 ?_
      refine ts_iload_n (i := 1) rfl rfl dX12_takes_27 ?_
      refine ts_bipush rfl dX12_takes_28 ?_
      refine td_iremK (by decide) dX12_takes_30 ?_
      refine ts_iadd dX12_takes_31 ?_
      refine tq_istore_n [tv_R 1, tv_I a1, tv_I a2, tv_I (tv_w ((tv_w (6 * (tv_div a1 10))) + (tv_rem a1 10)))] rfl (Nat.le_of_ble_eq_true rfl) rfl rfl dX12_takes_32 ?_
      refine ts_aload_n (i := 0) rfl rfl dX12_takes_33 ?_
      refine td_getR (q := 4) tl_X12_16 rfl ga_m_1 rfl dX12_takes_34 ?_
      refine ts_iload_n (i := 3) rfl rfl dX12_takes_37 ?_
      refine td_guard (fun h5 => ?_)
      refine td_ialdK ga_m_4 (gn_m_4 _) h5 dX12_takes_38 ?_
      refine ts_iload_n (i := 2) rfl rfl dX12_takes_39 ?_
      refine td_icmp_lt (tgt := 59) rfl dX12_takes_40 ?_ ?_
      · refine ts_bipush rfl dX12_takes_59 ?_
        exact td_iret rfl dX12_takes_61
      · refine ts_aload_n (i := 0) rfl rfl dX12_takes_43 ?_
        refine td_getR (q := 2) tl_X12_7 rfl ga_m_1 rfl dX12_takes_44 ?_
        refine ts_iload_n (i := 1) rfl rfl dX12_takes_47 ?_
        refine ts_bipush rfl dX12_takes_48 ?_
        refine td_iremK (by decide) dX12_takes_50 ?_
        refine td_guard (fun h6 => ?_)
        refine td_ialdK ga_m_2 (gn_m_2 _) h6 dX12_takes_51 ?_
        refine ts_iload_n (i := 2) rfl rfl dX12_takes_52 ?_
        refine ts_iadd dX12_takes_53 ?_
        refine ts_bipush rfl dX12_takes_54 ?_
        refine td_icmp_le (tgt := 62) rfl dX12_takes_56 ?_ ?_
        · refine ts_aload_n (i := 0) rfl rfl dX12_takes_62 ?_
          refine td_getR (q := 4) tl_X12_16 rfl ga_m_1 rfl dX12_takes_63 ?_
          refine ts_iload_n (i := 3) rfl rfl dX12_takes_66 ?_
          refine ts_dup2 dX12_takes_67 ?_
          refine td_ialdK ga_m_4 (gn_m_4 _) h5 dX12_takes_68 ?_
          refine ts_iload_n (i := 2) rfl rfl dX12_takes_69 ?_
          refine ts_isub dX12_takes_70 ?_
          refine td_iastK ga_m_4 (gn_m_4 _) h5 dX12_takes_71 ?_
          refine td_let (fun D7 => ?_)
          refine ts_aload_n (i := 0) rfl rfl dX12_takes_72 ?_
          refine td_getR (q := 2) tl_X12_7 rfl ga_m_1 rfl dX12_takes_73 ?_
          refine ts_iload_n (i := 1) rfl rfl dX12_takes_76 ?_
          refine ts_bipush rfl dX12_takes_77 ?_
          refine td_iremK (by decide) dX12_takes_79 ?_
          refine ts_dup2 dX12_takes_80 ?_
          refine td_ialdK ga_m_2 (gn_m_2 _) h6 dX12_takes_81 ?_
          refine ts_iload_n (i := 2) rfl rfl dX12_takes_82 ?_
          refine ts_iadd dX12_takes_83 ?_
          refine td_iastK ga_m_2 (gn_m_2 _) h6 dX12_takes_84 ?_
          refine td_let (fun D8 => ?_)
          refine ts_aload_n (i := 0) rfl rfl dX12_takes_85 ?_
          refine td_getR (q := 31) tl_X12_100 rfl ga_m_1 rfl dX12_takes_86 ?_
          refine ts_iconst rfl dX12_takes_89 ?_
          refine ts_dup2 dX12_takes_90 ?_
          refine td_ialdK ga_m_31 (gn_m_31 _) ⟨by decide, by decide⟩ dX12_takes_91 ?_
          refine ts_iload_n (i := 2) rfl rfl dX12_takes_92 ?_
          refine ts_iadd dX12_takes_93 ?_
          refine td_iastK ga_m_31 (gn_m_31 _) ⟨by decide, by decide⟩ dX12_takes_94 ?_
          refine td_let (fun D9 => ?_)
          refine ts_aload_n (i := 0) rfl rfl dX12_takes_95 ?_
          refine td_getR (q := 2) tl_X12_7 rfl ga_m_1 rfl dX12_takes_96 ?_
          refine ts_iload_n (i := 1) rfl rfl dX12_takes_99 ?_
          refine ts_bipush rfl dX12_takes_100 ?_
          refine td_iremK (by decide) dX12_takes_102 ?_
          refine td_ialdK ga_m_2 (gn_m_2 _) h6 dX12_takes_103 ?_
          exact td_iret rfl dX12_takes_104
        · refine ts_bipush rfl dX12_takes_59 ?_
          exact td_iret rfl dX12_takes_61
def F_X12_puts (a1 : Int) (a2 : Int) (D : td_D) : Option (Int × td_D) :=
  td_b (F_X12_areHis a1 D) fun r1 D2 =>
  if r1 = 0 then
    some ((-1), D2)
  else
    td_b (F_X12_in a2 1 99 D2) fun r3 D4 =>
    if r3 = 0 then
      some ((-1), D4)
    else
      if 0 ≤ tv_rem a1 10 ∧ tv_rem a1 10 < ((6 : Nat) : Int) then
        if D4 2 (Int.toNat (tv_rem a1 10)) < a2 then
          some ((-5), D4)
        else
          if 0 ≤ tv_w ((tv_w (6 * (tv_div a1 10))) + (tv_rem a1 10)) ∧ tv_w ((tv_w (6 * (tv_div a1 10))) + (tv_rem a1 10)) < ((30 : Nat) : Int) then
            if tv_w ((D4 4 (Int.toNat (tv_w ((tv_w (6 * (tv_div a1 10))) + (tv_rem a1 10))))) + a2) ≤ 99 then
              td_l (td_upd D4 4 (Int.toNat (tv_w ((tv_w (6 * (tv_div a1 10))) + (tv_rem a1 10)))) (tv_w ((D4 4 (Int.toNat (tv_w ((tv_w (6 * (tv_div a1 10))) + (tv_rem a1 10))))) + a2))) fun D7 =>
              td_l (td_upd D7 2 (Int.toNat (tv_rem a1 10)) (tv_w ((D7 2 (Int.toNat (tv_rem a1 10))) - a2))) fun D8 =>
              td_l (td_upd D8 31 (Int.toNat 1) (tv_w ((D8 31 (Int.toNat 1)) + a2))) fun D9 =>
              some (D9 4 (Int.toNat (tv_w ((tv_w (6 * (tv_div a1 10))) + (tv_rem a1 10)))), D9)
            else
              some ((-5), D4)
          else none
      else none
set_option maxHeartbeats 4000000 in
set_option maxRecDepth 20000 in
theorem S_X12_puts (l : Launch) {E : tv_E} (hE : tv_hE E) (d : Nat) (a1 : Int) (a2 : Int) (D : td_D) : td_msim l E (d + 3) mX12_puts g_m [tv_R 1, tv_I a1, tv_I a2] D (F_X12_puts a1 a2 D) := by
  refine td_meetL (ls := [tv_R 1, tv_I a1, tv_I a2, tv_U]) rfl (Nat.le_of_ble_eq_true rfl) rfl ?_
  unfold F_X12_puts
  refine ts_aload_n (i := 0) rfl rfl dX12_puts_0 ?_
  refine ts_iload_n (i := 1) rfl rfl dX12_puts_1 ?_
  refine tq_callV (y2 := mX12_areHis) [tv_I a1] [] 1 (st' := fun r1 => [tv_I r1]) tw_X12_areHis tx_X12_areHis tw_c12 ga_m_1 tl_X12_191 rfl rfl rfl rfl (fun _ => rfl) dX12_puts_2 (S_X12_areHis l hE _ a1 D) (fun r1 D2 => ?_)
  refine td_if_eq (tgt := 18) rfl dX12_puts_5 ?_ ?_
  · refine ts_iconst rfl dX12_puts_18 ?_
    exact td_iret rfl dX12_puts_19
  · refine ts_iload_n (i := 2) rfl rfl dX12_puts_8 ?_
    refine ts_iconst rfl dX12_puts_9 ?_
    refine ts_bipush rfl dX12_puts_10 ?_
    refine tq_callS (y2 := mX12_in) [tv_I a2, tv_I 1, tv_I 99] [] (st' := fun r3 => [tv_I r3]) tw_X12_in tx_X12_in tl_X12_142 rfl rfl rfl rfl (fun _ => rfl) dX12_puts_12 (S_X12_in l hE _ a2 1 99 D2) (fun r3 D4 => ?_)
    refine td_if_ne (tgt := 20) rfl dX12_puts_15 ?_ ?_
    · refine ts_iconst rfl dX12_puts_18 ?_
      exact td_iret rfl dX12_puts_19
    · refine ts_bipush rfl dX12_puts_20 ?_
      refine ts_iload_n (i := 1) rfl rfl dX12_puts_22 ?_
      refine ts_bipush rfl dX12_puts_23 ?_
      refine td_idivK (by decide) dX12_puts_25 ?_
      refine ts_imul dX12_puts_26 ?_
      refine ts_iload_n (i := 1) rfl rfl dX12_puts_27 ?_
      refine ts_bipush rfl dX12_puts_28 ?_
      refine td_iremK (by decide) dX12_puts_30 ?_
      refine ts_iadd dX12_puts_31 ?_
      refine tq_istore_n [tv_R 1, tv_I a1, tv_I a2, tv_I (tv_w ((tv_w (6 * (tv_div a1 10))) + (tv_rem a1 10)))] rfl (Nat.le_of_ble_eq_true rfl) rfl rfl dX12_puts_32 ?_
      refine ts_aload_n (i := 0) rfl rfl dX12_puts_33 ?_
      refine td_getR (q := 2) tl_X12_7 rfl ga_m_1 rfl dX12_puts_34 ?_
      refine ts_iload_n (i := 1) rfl rfl dX12_puts_37 ?_
      refine ts_bipush rfl dX12_puts_38 ?_
      refine td_iremK (by decide) dX12_puts_40 ?_
      refine td_guard (fun h5 => ?_)
      refine td_ialdK ga_m_2 (gn_m_2 _) h5 dX12_puts_41 ?_
      refine ts_iload_n (i := 2) rfl rfl dX12_puts_42 ?_
      refine td_icmp_lt (tgt := 59) rfl dX12_puts_43 ?_ ?_
      · refine ts_bipush rfl dX12_puts_59 ?_
        exact td_iret rfl dX12_puts_61
      · refine ts_aload_n (i := 0) rfl rfl dX12_puts_46 ?_
        refine td_getR (q := 4) tl_X12_16 rfl ga_m_1 rfl dX12_puts_47 ?_
        refine ts_iload_n (i := 3) rfl rfl dX12_puts_50 ?_
        refine td_guard (fun h6 => ?_)
        refine td_ialdK ga_m_4 (gn_m_4 _) h6 dX12_puts_51 ?_
        refine ts_iload_n (i := 2) rfl rfl dX12_puts_52 ?_
        refine ts_iadd dX12_puts_53 ?_
        refine ts_bipush rfl dX12_puts_54 ?_
        refine td_icmp_le (tgt := 62) rfl dX12_puts_56 ?_ ?_
        · refine ts_aload_n (i := 0) rfl rfl dX12_puts_62 ?_
          refine td_getR (q := 4) tl_X12_16 rfl ga_m_1 rfl dX12_puts_63 ?_
          refine ts_iload_n (i := 3) rfl rfl dX12_puts_66 ?_
          refine ts_dup2 dX12_puts_67 ?_
          refine td_ialdK ga_m_4 (gn_m_4 _) h6 dX12_puts_68 ?_
          refine ts_iload_n (i := 2) rfl rfl dX12_puts_69 ?_
          refine ts_iadd dX12_puts_70 ?_
          refine td_iastK ga_m_4 (gn_m_4 _) h6 dX12_puts_71 ?_
          refine td_let (fun D7 => ?_)
          refine ts_aload_n (i := 0) rfl rfl dX12_puts_72 ?_
          refine td_getR (q := 2) tl_X12_7 rfl ga_m_1 rfl dX12_puts_73 ?_
          refine ts_iload_n (i := 1) rfl rfl dX12_puts_76 ?_
          refine ts_bipush rfl dX12_puts_77 ?_
          refine td_iremK (by decide) dX12_puts_79 ?_
          refine ts_dup2 dX12_puts_80 ?_
          refine td_ialdK ga_m_2 (gn_m_2 _) h5 dX12_puts_81 ?_
          refine ts_iload_n (i := 2) rfl rfl dX12_puts_82 ?_
          refine ts_isub dX12_puts_83 ?_
          refine td_iastK ga_m_2 (gn_m_2 _) h5 dX12_puts_84 ?_
          refine td_let (fun D8 => ?_)
          refine ts_aload_n (i := 0) rfl rfl dX12_puts_85 ?_
          refine td_getR (q := 31) tl_X12_100 rfl ga_m_1 rfl dX12_puts_86 ?_
          refine ts_iconst rfl dX12_puts_89 ?_
          refine ts_dup2 dX12_puts_90 ?_
          refine td_ialdK ga_m_31 (gn_m_31 _) ⟨by decide, by decide⟩ dX12_puts_91 ?_
          refine ts_iload_n (i := 2) rfl rfl dX12_puts_92 ?_
          refine ts_iadd dX12_puts_93 ?_
          refine td_iastK ga_m_31 (gn_m_31 _) ⟨by decide, by decide⟩ dX12_puts_94 ?_
          refine td_let (fun D9 => ?_)
          refine ts_aload_n (i := 0) rfl rfl dX12_puts_95 ?_
          refine td_getR (q := 4) tl_X12_16 rfl ga_m_1 rfl dX12_puts_96 ?_
          refine ts_iload_n (i := 3) rfl rfl dX12_puts_99 ?_
          refine td_ialdK ga_m_4 (gn_m_4 _) h6 dX12_puts_100 ?_
          exact td_iret rfl dX12_puts_101
        · refine ts_bipush rfl dX12_puts_59 ?_
          exact td_iret rfl dX12_puts_61
def F_X12_day_29 : Nat → Int → td_D → Option (Int × td_D)
  | 0, _, _ => none
  | n + 1, v1, D =>
    if 30 ≤ v1 then
      td_l (td_upd D 31 (Int.toNat 2) (tv_w ((D 31 (Int.toNat 2)) + 1))) fun D1 =>
      td_b (F_X12_allOfAll D1) fun r2 D3 =>
      some (r2, D3)
    else
      if 0 ≤ v1 ∧ v1 < ((30 : Nat) : Int) then
        td_l (td_upd D 4 (Int.toNat v1) (D 21 (Int.toNat v1))) fun D5 =>
        F_X12_day_29 n (tv_w (v1 + 1)) D5
      else none
set_option maxHeartbeats 4000000 in
set_option maxRecDepth 20000 in
theorem S_X12_day_29 {l : Launch} {E : tv_E} (hE : tv_hE E) (d : Nat) : ∀ (n : Nat) (v1 : Int) (D : td_D), td_sim l E (d + 5) mX12_day g_m 29 [tv_R 1, tv_I v1] [] D (F_X12_day_29 n v1 D) := by
  intro n
  induction n with
  | zero => intros; exact tv_none
  | succ n ih =>
    intro v1 D
    show td_sim _ _ _ _ _ _ _ _ _ (F_X12_day_29 (n + 1) v1 D)
    unfold F_X12_day_29
    refine ts_iload_n (i := 1) rfl rfl dX12_day_29 ?_
    refine ts_bipush rfl dX12_day_30 ?_
    refine td_icmp_ge (tgt := 53) rfl dX12_day_32 ?_ ?_
    · refine ts_aload_n (i := 0) rfl rfl dX12_day_53 ?_
      refine td_getR (q := 31) tl_X12_100 rfl ga_m_1 rfl dX12_day_54 ?_
      refine ts_iconst rfl dX12_day_57 ?_
      refine ts_dup2 dX12_day_58 ?_
      refine td_ialdK ga_m_31 (gn_m_31 _) ⟨by decide, by decide⟩ dX12_day_59 ?_
      refine ts_iconst rfl dX12_day_60 ?_
      refine ts_iadd dX12_day_61 ?_
      refine td_iastK ga_m_31 (gn_m_31 _) ⟨by decide, by decide⟩ dX12_day_62 ?_
      refine td_let (fun D1 => ?_)
      refine ts_aload_n (i := 0) rfl rfl dX12_day_63 ?_
      refine tq_callV (y2 := mX12_allOfAll) [] [] 1 (st' := fun r2 => [tv_I r2]) tw_X12_allOfAll tx_X12_allOfAll tw_c12 ga_m_1 tl_X12_376 rfl rfl rfl rfl (fun _ => rfl) dX12_day_64 (S_X12_allOfAll l hE _ D1) (fun r2 D3 => ?_)
      exact td_iret rfl dX12_day_67
    · refine ts_aload_n (i := 0) rfl rfl dX12_day_35 ?_
      refine td_getR (q := 4) tl_X12_16 rfl ga_m_1 rfl dX12_day_36 ?_
      refine ts_iload_n (i := 1) rfl rfl dX12_day_39 ?_
      refine ts_aload_n (i := 0) rfl rfl dX12_day_40 ?_
      refine td_getR (q := 21) tl_X12_69 rfl ga_m_1 rfl dX12_day_41 ?_
      refine ts_iload_n (i := 1) rfl rfl dX12_day_44 ?_
      refine td_guard (fun h4 => ?_)
      refine td_ialdK ga_m_21 (gn_m_21 _) h4 dX12_day_45 ?_
      refine td_iastK ga_m_4 (gn_m_4 _) h4 dX12_day_46 ?_
      refine td_let (fun D5 => ?_)
      refine tq_iinc [tv_R 1, tv_I (tv_w (v1 + 1))] rfl rfl rfl dX12_day_47 ?_
      refine ts_goto (tgt := 29) rfl dX12_day_50 ?_
      exact ih (tv_w (v1 + 1)) D5
def F_X12_day_6 : Nat → Int → td_D → Option (Int × td_D)
  | 0, _, _ => none
  | n + 1, v1, D =>
    if D 1 3 ≤ v1 then
      F_X12_day_29 tf_N 0 D
    else
      td_b (F_X12_goDay v1 0 D) fun r6 D7 =>
      F_X12_day_6 n (tv_w (v1 + 1)) D7
set_option maxHeartbeats 4000000 in
set_option maxRecDepth 20000 in
theorem S_X12_day_6 {l : Launch} {E : tv_E} (hE : tv_hE E) (d : Nat) : ∀ (n : Nat) (v1 : Int) (D : td_D), td_sim l E (d + 5) mX12_day g_m 6 [tv_R 1, tv_I v1] [] D (F_X12_day_6 n v1 D) := by
  intro n
  induction n with
  | zero => intros; exact tv_none
  | succ n ih =>
    intro v1 D
    show td_sim _ _ _ _ _ _ _ _ _ (F_X12_day_6 (n + 1) v1 D)
    unfold F_X12_day_6
    refine ts_iload_n (i := 1) rfl rfl dX12_day_6 ?_
    refine ts_aload_n (i := 0) rfl rfl dX12_day_7 ?_
    refine td_getI tl_X12_146 rfl ga_m_1 rfl dX12_day_8 ?_
    refine td_icmp_ge (tgt := 27) rfl dX12_day_11 ?_ ?_
    · refine ts_iconst rfl dX12_day_27 ?_
      refine tq_istore_n [tv_R 1, tv_I 0] rfl (Nat.le_of_ble_eq_true rfl) rfl rfl dX12_day_28 ?_
      exact S_X12_day_29 hE d tf_N 0 D
    · refine ts_aload_n (i := 0) rfl rfl dX12_day_14 ?_
      refine ts_iload_n (i := 1) rfl rfl dX12_day_15 ?_
      refine ts_iconst rfl dX12_day_16 ?_
      refine tq_callV (y2 := mX12_goDay) [tv_I v1, tv_I 0] [] 1 (st' := fun r6 => [tv_I r6]) tw_X12_goDay tx_X12_goDay tw_c12 ga_m_1 tl_X12_292 rfl rfl rfl rfl (fun _ => rfl) dX12_day_17 (S_X12_goDay l hE _ v1 0 D) (fun r6 D7 => ?_)
      refine ts_popI dX12_day_20 ?_
      refine tq_iinc [tv_R 1, tv_I (tv_w (v1 + 1))] rfl rfl rfl dX12_day_21 ?_
      refine ts_goto (tgt := 6) rfl dX12_day_24 ?_
      exact ih (tv_w (v1 + 1)) D7
def F_X12_day (D : td_D) : Option (Int × td_D) :=
  td_b (F_X12_layNow D) fun _ D9 =>
  F_X12_day_6 tf_N 0 D9
set_option maxHeartbeats 4000000 in
set_option maxRecDepth 20000 in
theorem S_X12_day (l : Launch) {E : tv_E} (hE : tv_hE E) (d : Nat) (D : td_D) : td_msim l E (d + 5) mX12_day g_m [tv_R 1] D (F_X12_day D) := by
  refine td_meetL (ls := [tv_R 1, tv_U]) rfl (Nat.le_of_ble_eq_true rfl) rfl ?_
  unfold F_X12_day
  refine ts_aload_n (i := 0) rfl rfl dX12_day_0 ?_
  refine tq_callV (y2 := mX12_layNow) [] [] 1 (st' := fun _ => []) tw_X12_layNow tx_X12_layNow tw_c12 ga_m_1 tl_X12_289 rfl rfl rfl rfl (fun _ => rfl) dX12_day_1 (S_X12_layNow l hE _ D) (fun r8 D9 => ?_)
  refine ts_iconst rfl dX12_day_4 ?_
  refine tq_istore_n [tv_R 1, tv_I 0] rfl (Nat.le_of_ble_eq_true rfl) rfl rfl dX12_day_5 ?_
  exact S_X12_day_6 hE d tf_N 0 D9
def F_X12_does (a1 : Int) (D : td_D) : Option (Int × td_D) :=
  if a1 < 0 then
    some ((-1), D)
  else
    td_b (F_X12_isDeed (tv_div a1 10) D) fun r1 D2 =>
    if r1 = 0 then
      some ((-1), D2)
    else
      td_b (F_X12_isPerson (tv_rem a1 10) D2) fun r3 D4 =>
      if r3 = 0 then
        some ((-1), D4)
      else
        if 0 ≤ tv_rem a1 10 ∧ tv_rem a1 10 < ((6 : Nat) : Int) then
          td_b (F_X12_mayDo (tv_div a1 10) (D4 2 (Int.toNat (tv_rem a1 10))) D4) fun r6 D7 =>
          if r6 = 0 then
            some ((-5), D7)
          else
            if 0 ≤ tv_div a1 10 ∧ tv_div a1 10 < ((10 : Nat) : Int) then
              td_l (td_upd D7 2 (Int.toNat (tv_rem a1 10)) (tv_w ((D7 2 (Int.toNat (tv_rem a1 10))) - (tv_div (D7 5 (Int.toNat (tv_div a1 10))) 2)))) fun D9 =>
              td_l (td_upd D9 31 (Int.toNat 3) (tv_w ((D9 31 (Int.toNat 3)) + 1))) fun D10 =>
              td_l (td_upd D10 31 (Int.toNat 4) (tv_w ((D10 31 (Int.toNat 4)) + (D10 7 (Int.toNat (tv_div a1 10)))))) fun D11 =>
              some (D11 2 (Int.toNat (tv_rem a1 10)), D11)
            else none
        else none
set_option maxHeartbeats 4000000 in
set_option maxRecDepth 20000 in
theorem S_X12_does (l : Launch) {E : tv_E} (hE : tv_hE E) (d : Nat) (a1 : Int) (D : td_D) : td_msim l E (d + 2) mX12_does g_m [tv_R 1, tv_I a1] D (F_X12_does a1 D) := by
  refine td_meetL (ls := [tv_R 1, tv_I a1]) rfl (Nat.le_of_ble_eq_true rfl) rfl ?_
  unfold F_X12_does
  refine ts_iload_n (i := 1) rfl rfl dX12_does_0 ?_
  refine td_if_lt (tgt := 26) rfl dX12_does_1 ?_ ?_
  · refine ts_iconst rfl dX12_does_26 ?_
    exact td_iret rfl dX12_does_27
  · refine ts_aload_n (i := 0) rfl rfl dX12_does_4 ?_
    refine ts_iload_n (i := 1) rfl rfl dX12_does_5 ?_
    refine ts_bipush rfl dX12_does_6 ?_
    refine td_idivK (by decide) dX12_does_8 ?_
    refine tq_callV (y2 := mX12_isDeed) [tv_I (tv_div a1 10)] [] 1 (st' := fun r1 => [tv_I r1]) tw_X12_isDeed tx_X12_isDeed tw_c12 ga_m_1 tl_X12_194 rfl rfl rfl rfl (fun _ => rfl) dX12_does_9 (S_X12_isDeed l hE _ (tv_div a1 10) D) (fun r1 D2 => ?_)
    refine td_if_eq (tgt := 26) rfl dX12_does_12 ?_ ?_
    · refine ts_iconst rfl dX12_does_26 ?_
      exact td_iret rfl dX12_does_27
    · refine ts_aload_n (i := 0) rfl rfl dX12_does_15 ?_
      refine ts_iload_n (i := 1) rfl rfl dX12_does_16 ?_
      refine ts_bipush rfl dX12_does_17 ?_
      refine td_iremK (by decide) dX12_does_19 ?_
      refine tq_callV (y2 := mX12_isPerson) [tv_I (tv_rem a1 10)] [] 1 (st' := fun r3 => [tv_I r3]) tw_X12_isPerson tx_X12_isPerson tw_c12 ga_m_1 tl_X12_188 rfl rfl rfl rfl (fun _ => rfl) dX12_does_20 (S_X12_isPerson l hE _ (tv_rem a1 10) D2) (fun r3 D4 => ?_)
      refine td_if_ne (tgt := 28) rfl dX12_does_23 ?_ ?_
      · refine ts_iconst rfl dX12_does_26 ?_
        exact td_iret rfl dX12_does_27
      · refine ts_aload_n (i := 0) rfl rfl dX12_does_28 ?_
        refine ts_iload_n (i := 1) rfl rfl dX12_does_29 ?_
        refine ts_bipush rfl dX12_does_30 ?_
        refine td_idivK (by decide) dX12_does_32 ?_
        refine ts_aload_n (i := 0) rfl rfl dX12_does_33 ?_
        refine td_getR (q := 2) tl_X12_7 rfl ga_m_1 rfl dX12_does_34 ?_
        refine ts_iload_n (i := 1) rfl rfl dX12_does_37 ?_
        refine ts_bipush rfl dX12_does_38 ?_
        refine td_iremK (by decide) dX12_does_40 ?_
        refine td_guard (fun h5 => ?_)
        refine td_ialdK ga_m_2 (gn_m_2 _) h5 dX12_does_41 ?_
        refine tq_callV (y2 := mX12_mayDo) [tv_I (tv_div a1 10), tv_I (D4 2 (Int.toNat (tv_rem a1 10)))] [] 1 (st' := fun r6 => [tv_I r6]) tw_X12_mayDo tx_X12_mayDo tw_c12 ga_m_1 tl_X12_313 rfl rfl rfl rfl (fun _ => rfl) dX12_does_42 (S_X12_mayDo l hE _ (tv_div a1 10) (D4 2 (Int.toNat (tv_rem a1 10))) D4) (fun r6 D7 => ?_)
        refine td_if_ne (tgt := 51) rfl dX12_does_45 ?_ ?_
        · refine ts_bipush rfl dX12_does_48 ?_
          exact td_iret rfl dX12_does_50
        · refine ts_aload_n (i := 0) rfl rfl dX12_does_51 ?_
          refine td_getR (q := 2) tl_X12_7 rfl ga_m_1 rfl dX12_does_52 ?_
          refine ts_iload_n (i := 1) rfl rfl dX12_does_55 ?_
          refine ts_bipush rfl dX12_does_56 ?_
          refine td_iremK (by decide) dX12_does_58 ?_
          refine ts_dup2 dX12_does_59 ?_
          refine td_ialdK ga_m_2 (gn_m_2 _) h5 dX12_does_60 ?_
          refine ts_aload_n (i := 0) rfl rfl dX12_does_61 ?_
          refine td_getR (q := 5) tl_X12_19 rfl ga_m_1 rfl dX12_does_62 ?_
          refine ts_iload_n (i := 1) rfl rfl dX12_does_65 ?_
          refine ts_bipush rfl dX12_does_66 ?_
          refine td_idivK (by decide) dX12_does_68 ?_
          refine td_guard (fun h8 => ?_)
          refine td_ialdK ga_m_5 (gn_m_5 _) h8 dX12_does_69 ?_
          refine ts_iconst rfl dX12_does_70 ?_
          refine td_idivK (by decide) dX12_does_71 ?_
          refine ts_isub dX12_does_72 ?_
          refine td_iastK ga_m_2 (gn_m_2 _) h5 dX12_does_73 ?_
          refine td_let (fun D9 => ?_)
          refine ts_aload_n (i := 0) rfl rfl dX12_does_74 ?_
          refine td_getR (q := 31) tl_X12_100 rfl ga_m_1 rfl dX12_does_75 ?_
          refine ts_iconst rfl dX12_does_78 ?_
          refine ts_dup2 dX12_does_79 ?_
          refine td_ialdK ga_m_31 (gn_m_31 _) ⟨by decide, by decide⟩ dX12_does_80 ?_
          refine ts_iconst rfl dX12_does_81 ?_
          refine ts_iadd dX12_does_82 ?_
          refine td_iastK ga_m_31 (gn_m_31 _) ⟨by decide, by decide⟩ dX12_does_83 ?_
          refine td_let (fun D10 => ?_)
          refine ts_aload_n (i := 0) rfl rfl dX12_does_84 ?_
          refine td_getR (q := 31) tl_X12_100 rfl ga_m_1 rfl dX12_does_85 ?_
          refine ts_iconst rfl dX12_does_88 ?_
          refine ts_dup2 dX12_does_89 ?_
          refine td_ialdK ga_m_31 (gn_m_31 _) ⟨by decide, by decide⟩ dX12_does_90 ?_
          refine ts_aload_n (i := 0) rfl rfl dX12_does_91 ?_
          refine td_getR (q := 7) tl_X12_25 rfl ga_m_1 rfl dX12_does_92 ?_
          refine ts_iload_n (i := 1) rfl rfl dX12_does_95 ?_
          refine ts_bipush rfl dX12_does_96 ?_
          refine td_idivK (by decide) dX12_does_98 ?_
          refine td_ialdK ga_m_7 (gn_m_7 _) h8 dX12_does_99 ?_
          refine ts_iadd dX12_does_100 ?_
          refine td_iastK ga_m_31 (gn_m_31 _) ⟨by decide, by decide⟩ dX12_does_101 ?_
          refine td_let (fun D11 => ?_)
          refine ts_aload_n (i := 0) rfl rfl dX12_does_102 ?_
          refine td_getR (q := 2) tl_X12_7 rfl ga_m_1 rfl dX12_does_103 ?_
          refine ts_iload_n (i := 1) rfl rfl dX12_does_106 ?_
          refine ts_bipush rfl dX12_does_107 ?_
          refine td_iremK (by decide) dX12_does_109 ?_
          refine td_ialdK ga_m_2 (gn_m_2 _) h5 dX12_does_110 ?_
          exact td_iret rfl dX12_does_111
def F_X12_marry_61 (v1 : Int) (s0 : Int) (D : td_D) : Option (Int × td_D) :=
  if 0 ≤ s0 ∧ s0 < ((6 : Nat) : Int) then
    if 0 ≤ tv_w ((tv_w ((tv_div v1 10) + (tv_rem v1 10))) - s0) ∧ tv_w ((tv_w ((tv_div v1 10) + (tv_rem v1 10))) - s0) < ((6 : Nat) : Int) then
      td_l (td_upd D 2 (Int.toNat s0) (tv_div (tv_w ((tv_w ((D 2 (Int.toNat s0)) + (D 2 (Int.toNat (tv_w ((tv_w ((tv_div v1 10) + (tv_rem v1 10))) - s0)))))) + 1)) 2)) fun D3 =>
      td_l (td_upd D3 2 (Int.toNat (tv_w ((tv_w ((tv_div v1 10) + (tv_rem v1 10))) - s0))) (tv_div (tv_w ((D 2 (Int.toNat s0)) + (D 2 (Int.toNat (tv_w ((tv_w ((tv_div v1 10) + (tv_rem v1 10))) - s0)))))) 2)) fun D4 =>
      td_l (td_upd D4 31 (Int.toNat 5) (tv_w ((D4 31 (Int.toNat 5)) + 1))) fun D5 =>
      if 0 ≤ tv_div v1 10 ∧ tv_div v1 10 < ((6 : Nat) : Int) then
        some (D5 2 (Int.toNat (tv_div v1 10)), D5)
      else none
    else none
  else none
set_option maxHeartbeats 4000000 in
set_option maxRecDepth 20000 in
theorem S_X12_marry_61 {l : Launch} {E : tv_E} (hE : tv_hE E) (d : Nat) (v1 : Int) (s0 : Int) (D : td_D) : td_sim l E (d + 2) mX12_marry g_m 61 [tv_R 1, tv_I v1, tv_U, tv_U, tv_U] [tv_I s0] D (F_X12_marry_61 v1 s0 D) := by
  unfold F_X12_marry_61
  refine tq_istore_n [tv_R 1, tv_I v1, tv_I s0, tv_U, tv_U] rfl (Nat.le_of_ble_eq_true rfl) rfl rfl dX12_marry_61 ?_
  refine ts_iload_n (i := 1) rfl rfl dX12_marry_62 ?_
  refine ts_bipush rfl dX12_marry_63 ?_
  refine td_idivK (by decide) dX12_marry_65 ?_
  refine ts_iload_n (i := 1) rfl rfl dX12_marry_66 ?_
  refine ts_bipush rfl dX12_marry_67 ?_
  refine td_iremK (by decide) dX12_marry_69 ?_
  refine ts_iadd dX12_marry_70 ?_
  refine ts_iload_n (i := 2) rfl rfl dX12_marry_71 ?_
  refine ts_isub dX12_marry_72 ?_
  refine tq_istore_n [tv_R 1, tv_I v1, tv_I s0, tv_I (tv_w ((tv_w ((tv_div v1 10) + (tv_rem v1 10))) - s0)), tv_U] rfl (Nat.le_of_ble_eq_true rfl) rfl rfl dX12_marry_73 ?_
  refine ts_aload_n (i := 0) rfl rfl dX12_marry_74 ?_
  refine td_getR (q := 2) tl_X12_7 rfl ga_m_1 rfl dX12_marry_75 ?_
  refine ts_iload_n (i := 2) rfl rfl dX12_marry_78 ?_
  refine td_guard (fun h1 => ?_)
  refine td_ialdK ga_m_2 (gn_m_2 _) h1 dX12_marry_79 ?_
  refine ts_aload_n (i := 0) rfl rfl dX12_marry_80 ?_
  refine td_getR (q := 2) tl_X12_7 rfl ga_m_1 rfl dX12_marry_81 ?_
  refine ts_iload_n (i := 3) rfl rfl dX12_marry_84 ?_
  refine td_guard (fun h2 => ?_)
  refine td_ialdK ga_m_2 (gn_m_2 _) h2 dX12_marry_85 ?_
  refine ts_iadd dX12_marry_86 ?_
  refine tq_istore [tv_R 1, tv_I v1, tv_I s0, tv_I (tv_w ((tv_w ((tv_div v1 10) + (tv_rem v1 10))) - s0)), tv_I (tv_w ((D 2 (Int.toNat s0)) + (D 2 (Int.toNat (tv_w ((tv_w ((tv_div v1 10) + (tv_rem v1 10))) - s0))))))] (Nat.le_of_ble_eq_true rfl) rfl rfl dX12_marry_87 ?_
  refine ts_aload_n (i := 0) rfl rfl dX12_marry_89 ?_
  refine td_getR (q := 2) tl_X12_7 rfl ga_m_1 rfl dX12_marry_90 ?_
  refine ts_iload_n (i := 2) rfl rfl dX12_marry_93 ?_
  refine ts_iload rfl dX12_marry_94 ?_
  refine ts_iconst rfl dX12_marry_96 ?_
  refine ts_iadd dX12_marry_97 ?_
  refine ts_iconst rfl dX12_marry_98 ?_
  refine td_idivK (by decide) dX12_marry_99 ?_
  refine td_iastK ga_m_2 (gn_m_2 _) h1 dX12_marry_100 ?_
  refine td_let (fun D3 => ?_)
  refine ts_aload_n (i := 0) rfl rfl dX12_marry_101 ?_
  refine td_getR (q := 2) tl_X12_7 rfl ga_m_1 rfl dX12_marry_102 ?_
  refine ts_iload_n (i := 3) rfl rfl dX12_marry_105 ?_
  refine ts_iload rfl dX12_marry_106 ?_
  refine ts_iconst rfl dX12_marry_108 ?_
  refine td_idivK (by decide) dX12_marry_109 ?_
  refine td_iastK ga_m_2 (gn_m_2 _) h2 dX12_marry_110 ?_
  refine td_let (fun D4 => ?_)
  refine ts_aload_n (i := 0) rfl rfl dX12_marry_111 ?_
  refine td_getR (q := 31) tl_X12_100 rfl ga_m_1 rfl dX12_marry_112 ?_
  refine ts_iconst rfl dX12_marry_115 ?_
  refine ts_dup2 dX12_marry_116 ?_
  refine td_ialdK ga_m_31 (gn_m_31 _) ⟨by decide, by decide⟩ dX12_marry_117 ?_
  refine ts_iconst rfl dX12_marry_118 ?_
  refine ts_iadd dX12_marry_119 ?_
  refine td_iastK ga_m_31 (gn_m_31 _) ⟨by decide, by decide⟩ dX12_marry_120 ?_
  refine td_let (fun D5 => ?_)
  refine ts_aload_n (i := 0) rfl rfl dX12_marry_121 ?_
  refine td_getR (q := 2) tl_X12_7 rfl ga_m_1 rfl dX12_marry_122 ?_
  refine ts_iload_n (i := 1) rfl rfl dX12_marry_125 ?_
  refine ts_bipush rfl dX12_marry_126 ?_
  refine td_idivK (by decide) dX12_marry_128 ?_
  refine td_guard (fun h6 => ?_)
  refine td_ialdK ga_m_2 (gn_m_2 _) h6 dX12_marry_129 ?_
  exact td_iret rfl dX12_marry_130
def F_X12_marry (a1 : Int) (D : td_D) : Option (Int × td_D) :=
  if a1 < 0 then
    some ((-1), D)
  else
    td_b (F_X12_isPerson (tv_div a1 10) D) fun r7 D8 =>
    if r7 = 0 then
      some ((-1), D8)
    else
      td_b (F_X12_isPerson (tv_rem a1 10) D8) fun r9 D10 =>
      if r9 = 0 then
        some ((-1), D10)
      else
        if tv_div a1 10 = tv_rem a1 10 then
          some ((-1), D10)
        else
          if tv_rem a1 10 ≤ tv_div a1 10 then
            F_X12_marry_61 a1 (tv_rem a1 10) D10
          else
            F_X12_marry_61 a1 (tv_div a1 10) D10
set_option maxHeartbeats 4000000 in
set_option maxRecDepth 20000 in
theorem S_X12_marry (l : Launch) {E : tv_E} (hE : tv_hE E) (d : Nat) (a1 : Int) (D : td_D) : td_msim l E (d + 2) mX12_marry g_m [tv_R 1, tv_I a1] D (F_X12_marry a1 D) := by
  refine td_meetL (ls := [tv_R 1, tv_I a1, tv_U, tv_U, tv_U]) rfl (Nat.le_of_ble_eq_true rfl) rfl ?_
  unfold F_X12_marry
  refine ts_iload_n (i := 1) rfl rfl dX12_marry_0 ?_
  refine td_if_lt (tgt := 37) rfl dX12_marry_1 ?_ ?_
  · refine ts_iconst rfl dX12_marry_37 ?_
    exact td_iret rfl dX12_marry_38
  · refine ts_aload_n (i := 0) rfl rfl dX12_marry_4 ?_
    refine ts_iload_n (i := 1) rfl rfl dX12_marry_5 ?_
    refine ts_bipush rfl dX12_marry_6 ?_
    refine td_idivK (by decide) dX12_marry_8 ?_
    refine tq_callV (y2 := mX12_isPerson) [tv_I (tv_div a1 10)] [] 1 (st' := fun r7 => [tv_I r7]) tw_X12_isPerson tx_X12_isPerson tw_c12 ga_m_1 tl_X12_188 rfl rfl rfl rfl (fun _ => rfl) dX12_marry_9 (S_X12_isPerson l hE _ (tv_div a1 10) D) (fun r7 D8 => ?_)
    refine td_if_eq (tgt := 37) rfl dX12_marry_12 ?_ ?_
    · refine ts_iconst rfl dX12_marry_37 ?_
      exact td_iret rfl dX12_marry_38
    · refine ts_aload_n (i := 0) rfl rfl dX12_marry_15 ?_
      refine ts_iload_n (i := 1) rfl rfl dX12_marry_16 ?_
      refine ts_bipush rfl dX12_marry_17 ?_
      refine td_iremK (by decide) dX12_marry_19 ?_
      refine tq_callV (y2 := mX12_isPerson) [tv_I (tv_rem a1 10)] [] 1 (st' := fun r9 => [tv_I r9]) tw_X12_isPerson tx_X12_isPerson tw_c12 ga_m_1 tl_X12_188 rfl rfl rfl rfl (fun _ => rfl) dX12_marry_20 (S_X12_isPerson l hE _ (tv_rem a1 10) D8) (fun r9 D10 => ?_)
      refine td_if_eq (tgt := 37) rfl dX12_marry_23 ?_ ?_
      · refine ts_iconst rfl dX12_marry_37 ?_
        exact td_iret rfl dX12_marry_38
      · refine ts_iload_n (i := 1) rfl rfl dX12_marry_26 ?_
        refine ts_bipush rfl dX12_marry_27 ?_
        refine td_idivK (by decide) dX12_marry_29 ?_
        refine ts_iload_n (i := 1) rfl rfl dX12_marry_30 ?_
        refine ts_bipush rfl dX12_marry_31 ?_
        refine td_iremK (by decide) dX12_marry_33 ?_
        refine td_icmp_ne (tgt := 39) rfl dX12_marry_34 ?_ ?_
        · refine ts_iconst rfl dX12_marry_37 ?_
          exact td_iret rfl dX12_marry_38
        · refine ts_iload_n (i := 1) rfl rfl dX12_marry_39 ?_
          refine ts_bipush rfl dX12_marry_40 ?_
          refine td_idivK (by decide) dX12_marry_42 ?_
          refine ts_iload_n (i := 1) rfl rfl dX12_marry_43 ?_
          refine ts_bipush rfl dX12_marry_44 ?_
          refine td_iremK (by decide) dX12_marry_46 ?_
          refine td_icmp_ge (tgt := 57) rfl dX12_marry_47 ?_ ?_
          · refine ts_iload_n (i := 1) rfl rfl dX12_marry_57 ?_
            refine ts_bipush rfl dX12_marry_58 ?_
            refine td_iremK (by decide) dX12_marry_60 ?_
            exact S_X12_marry_61 hE d a1 (tv_rem a1 10) D10
          · refine ts_iload_n (i := 1) rfl rfl dX12_marry_50 ?_
            refine ts_bipush rfl dX12_marry_51 ?_
            refine td_idivK (by decide) dX12_marry_53 ?_
            refine ts_goto (tgt := 61) rfl dX12_marry_54 ?_
            exact S_X12_marry_61 hE d a1 (tv_div a1 10) D10
def F_X12_led (a1 : Int) (D : td_D) : Option (Int × td_D) :=
  td_b (F_X12_in a1 0 5 D) fun r1 D2 =>
  if r1 = 0 then
    some ((-1), D2)
  else
    if 0 ≤ a1 ∧ a1 < ((6 : Nat) : Int) then
      some (D2 31 (Int.toNat a1), D2)
    else none
set_option maxHeartbeats 4000000 in
set_option maxRecDepth 20000 in
theorem S_X12_led (l : Launch) {E : tv_E} (hE : tv_hE E) (d : Nat) (a1 : Int) (D : td_D) : td_msim l E (d + 1) mX12_led g_m [tv_R 1, tv_I a1] D (F_X12_led a1 D) := by
  refine td_meetL (ls := [tv_R 1, tv_I a1]) rfl (Nat.le_of_ble_eq_true rfl) rfl ?_
  unfold F_X12_led
  refine ts_iload_n (i := 1) rfl rfl dX12_led_0 ?_
  refine ts_iconst rfl dX12_led_1 ?_
  refine ts_iconst rfl dX12_led_2 ?_
  refine tq_callS (y2 := mX12_in) [tv_I a1, tv_I 0, tv_I 5] [] (st' := fun r1 => [tv_I r1]) tw_X12_in tx_X12_in tl_X12_142 rfl rfl rfl rfl (fun _ => rfl) dX12_led_3 (S_X12_in l hE _ a1 0 5 D) (fun r1 D2 => ?_)
  refine td_if_eq (tgt := 18) rfl dX12_led_6 ?_ ?_
  · refine ts_iconst rfl dX12_led_18 ?_
    exact td_iret rfl dX12_led_19
  · refine ts_aload_n (i := 0) rfl rfl dX12_led_9 ?_
    refine td_getR (q := 31) tl_X12_100 rfl ga_m_1 rfl dX12_led_10 ?_
    refine ts_iload_n (i := 1) rfl rfl dX12_led_13 ?_
    refine td_guard (fun h3 => ?_)
    refine td_ialdK ga_m_31 (gn_m_31 _) h3 dX12_led_14 ?_
    refine ts_goto (tgt := 19) rfl dX12_led_15 ?_
    exact td_iret rfl dX12_led_19
def F_X12_image_77 : Nat → Int → td_D → Option (Int × td_D)
  | 0, _, _ => none
  | n + 1, v1, D =>
    if 6 ≤ v1 then
      some (D 31 (Int.toNat 2), D)
    else
      if 0 ≤ v1 ∧ v1 < ((6 : Nat) : Int) then
        td_l (td_upd D 34 (Int.toNat v1) (D 31 (Int.toNat v1))) fun D2 =>
        F_X12_image_77 n (tv_w (v1 + 1)) D2
      else none
set_option maxHeartbeats 4000000 in
set_option maxRecDepth 20000 in
theorem S_X12_image_77 {l : Launch} {E : tv_E} (hE : tv_hE E) (d : Nat) : ∀ (n : Nat) (v1 : Int) (D : td_D), td_sim l E (d + 0) mX12_image g_m 77 [tv_R 1, tv_I v1] [] D (F_X12_image_77 n v1 D) := by
  intro n
  induction n with
  | zero => intros; exact tv_none
  | succ n ih =>
    intro v1 D
    show td_sim _ _ _ _ _ _ _ _ _ (F_X12_image_77 (n + 1) v1 D)
    unfold F_X12_image_77
    refine ts_iload_n (i := 1) rfl rfl dX12_image_77 ?_
    refine ts_bipush rfl dX12_image_78 ?_
    refine td_icmp_ge (tgt := 101) rfl dX12_image_80 ?_ ?_
    · refine ts_aload_n (i := 0) rfl rfl dX12_image_101 ?_
      refine td_getR (q := 31) tl_X12_100 rfl ga_m_1 rfl dX12_image_102 ?_
      refine ts_iconst rfl dX12_image_105 ?_
      refine td_ialdK ga_m_31 (gn_m_31 _) ⟨by decide, by decide⟩ dX12_image_106 ?_
      exact td_iret rfl dX12_image_107
    · refine ts_aload_n (i := 0) rfl rfl dX12_image_83 ?_
      refine td_getR (q := 34) tl_X12_109 rfl ga_m_1 rfl dX12_image_84 ?_
      refine ts_iload_n (i := 1) rfl rfl dX12_image_87 ?_
      refine ts_aload_n (i := 0) rfl rfl dX12_image_88 ?_
      refine td_getR (q := 31) tl_X12_100 rfl ga_m_1 rfl dX12_image_89 ?_
      refine ts_iload_n (i := 1) rfl rfl dX12_image_92 ?_
      refine td_guard (fun h1 => ?_)
      refine td_ialdK ga_m_31 (gn_m_31 _) h1 dX12_image_93 ?_
      refine td_iastK ga_m_34 (gn_m_34 _) h1 dX12_image_94 ?_
      refine td_let (fun D2 => ?_)
      refine tq_iinc [tv_R 1, tv_I (tv_w (v1 + 1))] rfl rfl rfl dX12_image_95 ?_
      refine ts_goto (tgt := 77) rfl dX12_image_98 ?_
      exact ih (tv_w (v1 + 1)) D2
def F_X12_image_51 : Nat → Int → td_D → Option (Int × td_D)
  | 0, _, _ => none
  | n + 1, v1, D =>
    if 30 ≤ v1 then
      F_X12_image_77 tf_N 0 D
    else
      if 0 ≤ v1 ∧ v1 < ((30 : Nat) : Int) then
        td_l (td_upd D 33 (Int.toNat v1) (D 4 (Int.toNat v1))) fun D4 =>
        F_X12_image_51 n (tv_w (v1 + 1)) D4
      else none
set_option maxHeartbeats 4000000 in
set_option maxRecDepth 20000 in
theorem S_X12_image_51 {l : Launch} {E : tv_E} (hE : tv_hE E) (d : Nat) : ∀ (n : Nat) (v1 : Int) (D : td_D), td_sim l E (d + 0) mX12_image g_m 51 [tv_R 1, tv_I v1] [] D (F_X12_image_51 n v1 D) := by
  intro n
  induction n with
  | zero => intros; exact tv_none
  | succ n ih =>
    intro v1 D
    show td_sim _ _ _ _ _ _ _ _ _ (F_X12_image_51 (n + 1) v1 D)
    unfold F_X12_image_51
    refine ts_iload_n (i := 1) rfl rfl dX12_image_51 ?_
    refine ts_bipush rfl dX12_image_52 ?_
    refine td_icmp_ge (tgt := 75) rfl dX12_image_54 ?_ ?_
    · refine ts_iconst rfl dX12_image_75 ?_
      refine tq_istore_n [tv_R 1, tv_I 0] rfl (Nat.le_of_ble_eq_true rfl) rfl rfl dX12_image_76 ?_
      exact S_X12_image_77 hE d tf_N 0 D
    · refine ts_aload_n (i := 0) rfl rfl dX12_image_57 ?_
      refine td_getR (q := 33) tl_X12_106 rfl ga_m_1 rfl dX12_image_58 ?_
      refine ts_iload_n (i := 1) rfl rfl dX12_image_61 ?_
      refine ts_aload_n (i := 0) rfl rfl dX12_image_62 ?_
      refine td_getR (q := 4) tl_X12_16 rfl ga_m_1 rfl dX12_image_63 ?_
      refine ts_iload_n (i := 1) rfl rfl dX12_image_66 ?_
      refine td_guard (fun h3 => ?_)
      refine td_ialdK ga_m_4 (gn_m_4 _) h3 dX12_image_67 ?_
      refine td_iastK ga_m_33 (gn_m_33 _) h3 dX12_image_68 ?_
      refine td_let (fun D4 => ?_)
      refine tq_iinc [tv_R 1, tv_I (tv_w (v1 + 1))] rfl rfl rfl dX12_image_69 ?_
      refine ts_goto (tgt := 51) rfl dX12_image_72 ?_
      exact ih (tv_w (v1 + 1)) D4
def F_X12_image_23 : Nat → Int → td_D → Option (Int × td_D)
  | 0, _, _ => none
  | n + 1, v1, D =>
    if D 1 1 ≤ v1 then
      F_X12_image_51 tf_N 0 D
    else
      if 0 ≤ v1 ∧ v1 < ((6 : Nat) : Int) then
        td_l (td_upd D 32 (Int.toNat v1) (D 2 (Int.toNat v1))) fun D6 =>
        F_X12_image_23 n (tv_w (v1 + 1)) D6
      else none
set_option maxHeartbeats 4000000 in
set_option maxRecDepth 20000 in
theorem S_X12_image_23 {l : Launch} {E : tv_E} (hE : tv_hE E) (d : Nat) : ∀ (n : Nat) (v1 : Int) (D : td_D), td_sim l E (d + 0) mX12_image g_m 23 [tv_R 1, tv_I v1] [] D (F_X12_image_23 n v1 D) := by
  intro n
  induction n with
  | zero => intros; exact tv_none
  | succ n ih =>
    intro v1 D
    show td_sim _ _ _ _ _ _ _ _ _ (F_X12_image_23 (n + 1) v1 D)
    unfold F_X12_image_23
    refine ts_iload_n (i := 1) rfl rfl dX12_image_23 ?_
    refine ts_aload_n (i := 0) rfl rfl dX12_image_24 ?_
    refine td_getI tl_X12_139 rfl ga_m_1 rfl dX12_image_25 ?_
    refine td_icmp_ge (tgt := 49) rfl dX12_image_28 ?_ ?_
    · refine ts_iconst rfl dX12_image_49 ?_
      refine tq_istore_n [tv_R 1, tv_I 0] rfl (Nat.le_of_ble_eq_true rfl) rfl rfl dX12_image_50 ?_
      exact S_X12_image_51 hE d tf_N 0 D
    · refine ts_aload_n (i := 0) rfl rfl dX12_image_31 ?_
      refine td_getR (q := 32) tl_X12_103 rfl ga_m_1 rfl dX12_image_32 ?_
      refine ts_iload_n (i := 1) rfl rfl dX12_image_35 ?_
      refine ts_aload_n (i := 0) rfl rfl dX12_image_36 ?_
      refine td_getR (q := 2) tl_X12_7 rfl ga_m_1 rfl dX12_image_37 ?_
      refine ts_iload_n (i := 1) rfl rfl dX12_image_40 ?_
      refine td_guard (fun h5 => ?_)
      refine td_ialdK ga_m_2 (gn_m_2 _) h5 dX12_image_41 ?_
      refine td_iastK ga_m_32 (gn_m_32 _) h5 dX12_image_42 ?_
      refine td_let (fun D6 => ?_)
      refine tq_iinc [tv_R 1, tv_I (tv_w (v1 + 1))] rfl rfl rfl dX12_image_43 ?_
      refine ts_goto (tgt := 23) rfl dX12_image_46 ?_
      exact ih (tv_w (v1 + 1)) D6
def F_X12_image (D : td_D) : Option (Int × td_D) :=
  td_l (td_upd D 1 44 1) fun D7 =>
  td_l (td_upd D7 1 45 (D7 1 1)) fun D8 =>
  td_l (td_upd D8 1 46 (D8 1 3)) fun D9 =>
  F_X12_image_23 tf_N 0 D9
set_option maxHeartbeats 4000000 in
set_option maxRecDepth 20000 in
theorem S_X12_image (l : Launch) {E : tv_E} (hE : tv_hE E) (d : Nat) (D : td_D) : td_msim l E (d + 0) mX12_image g_m [tv_R 1] D (F_X12_image D) := by
  refine td_meetL (ls := [tv_R 1, tv_U]) rfl (Nat.le_of_ble_eq_true rfl) rfl ?_
  unfold F_X12_image
  refine ts_aload_n (i := 0) rfl rfl dX12_image_0 ?_
  refine ts_iconst rfl dX12_image_1 ?_
  refine td_putZ tf_X12_380 (by intro h; cases h) rfl ga_m_1 rfl (Or.inr rfl) dX12_image_2 ?_
  refine td_let (fun D7 => ?_)
  refine ts_aload_n (i := 0) rfl rfl dX12_image_5 ?_
  refine ts_aload_n (i := 0) rfl rfl dX12_image_6 ?_
  refine td_getI tl_X12_139 rfl ga_m_1 rfl dX12_image_7 ?_
  refine td_putI tf_X12_383 (by intro h; cases h) rfl ga_m_1 rfl dX12_image_10 ?_
  refine td_let (fun D8 => ?_)
  refine ts_aload_n (i := 0) rfl rfl dX12_image_13 ?_
  refine ts_aload_n (i := 0) rfl rfl dX12_image_14 ?_
  refine td_getI tl_X12_146 rfl ga_m_1 rfl dX12_image_15 ?_
  refine td_putI tf_X12_386 (by intro h; cases h) rfl ga_m_1 rfl dX12_image_18 ?_
  refine td_let (fun D9 => ?_)
  refine ts_iconst rfl dX12_image_21 ?_
  refine tq_istore_n [tv_R 1, tv_I 0] rfl (Nat.le_of_ble_eq_true rfl) rfl rfl dX12_image_22 ?_
  exact S_X12_image_23 hE d tf_N 0 D9
def F_X12_back_114 : Nat → Int → td_D → Option (Int × td_D)
  | 0, _, _ => none
  | n + 1, v1, D =>
    if 6 ≤ v1 then
      some (D 31 (Int.toNat 2), D)
    else
      if 0 ≤ v1 ∧ v1 < ((6 : Nat) : Int) then
        td_l (td_upd D 31 (Int.toNat v1) (D 34 (Int.toNat v1))) fun D2 =>
        F_X12_back_114 n (tv_w (v1 + 1)) D2
      else none
set_option maxHeartbeats 4000000 in
set_option maxRecDepth 20000 in
theorem S_X12_back_114 {l : Launch} {E : tv_E} (hE : tv_hE E) (d : Nat) : ∀ (n : Nat) (v1 : Int) (D : td_D), td_sim l E (d + 0) mX12_back g_m 114 [tv_R 1, tv_I v1, tv_U] [] D (F_X12_back_114 n v1 D) := by
  intro n
  induction n with
  | zero => intros; exact tv_none
  | succ n ih =>
    intro v1 D
    show td_sim _ _ _ _ _ _ _ _ _ (F_X12_back_114 (n + 1) v1 D)
    unfold F_X12_back_114
    refine ts_iload_n (i := 1) rfl rfl dX12_back_114 ?_
    refine ts_bipush rfl dX12_back_115 ?_
    refine td_icmp_ge (tgt := 138) rfl dX12_back_117 ?_ ?_
    · refine ts_aload_n (i := 0) rfl rfl dX12_back_138 ?_
      refine td_getR (q := 31) tl_X12_100 rfl ga_m_1 rfl dX12_back_139 ?_
      refine ts_iconst rfl dX12_back_142 ?_
      refine td_ialdK ga_m_31 (gn_m_31 _) ⟨by decide, by decide⟩ dX12_back_143 ?_
      exact td_iret rfl dX12_back_144
    · refine ts_aload_n (i := 0) rfl rfl dX12_back_120 ?_
      refine td_getR (q := 31) tl_X12_100 rfl ga_m_1 rfl dX12_back_121 ?_
      refine ts_iload_n (i := 1) rfl rfl dX12_back_124 ?_
      refine ts_aload_n (i := 0) rfl rfl dX12_back_125 ?_
      refine td_getR (q := 34) tl_X12_109 rfl ga_m_1 rfl dX12_back_126 ?_
      refine ts_iload_n (i := 1) rfl rfl dX12_back_129 ?_
      refine td_guard (fun h1 => ?_)
      refine td_ialdK ga_m_34 (gn_m_34 _) h1 dX12_back_130 ?_
      refine td_iastK ga_m_31 (gn_m_31 _) h1 dX12_back_131 ?_
      refine td_let (fun D2 => ?_)
      refine tq_iinc [tv_R 1, tv_I (tv_w (v1 + 1)), tv_U] rfl rfl rfl dX12_back_132 ?_
      refine ts_goto (tgt := 114) rfl dX12_back_135 ?_
      exact ih (tv_w (v1 + 1)) D2
def F_X12_back_50 (k40 : Int → td_D → Option (Int × td_D)) : Nat → Int → Int → td_D → Option (Int × td_D)
  | 0, _, _, _ => none
  | n + 1, v1, v2, D =>
    if D 1 1 ≤ v2 then
      k40 (tv_w (v1 + 1)) D
    else
      if D 1 46 ≤ v1 then
        if 0 ≤ tv_w ((tv_w (6 * v1)) + v2) ∧ tv_w ((tv_w (6 * v1)) + v2) < ((30 : Nat) : Int) then
          td_l (td_upd D 4 (Int.toNat (tv_w ((tv_w (6 * v1)) + v2))) 0) fun D4 =>
          F_X12_back_50 k40 n v1 (tv_w (v2 + 1)) D4
        else none
      else
        if D 1 45 ≤ v2 then
          if 0 ≤ tv_w ((tv_w (6 * v1)) + v2) ∧ tv_w ((tv_w (6 * v1)) + v2) < ((30 : Nat) : Int) then
            td_l (td_upd D 4 (Int.toNat (tv_w ((tv_w (6 * v1)) + v2))) 0) fun D6 =>
            F_X12_back_50 k40 n v1 (tv_w (v2 + 1)) D6
          else none
        else
          if 0 ≤ tv_w ((tv_w (6 * v1)) + v2) ∧ tv_w ((tv_w (6 * v1)) + v2) < ((30 : Nat) : Int) then
            td_l (td_upd D 4 (Int.toNat (tv_w ((tv_w (6 * v1)) + v2))) (D 33 (Int.toNat (tv_w ((tv_w (6 * v1)) + v2))))) fun D8 =>
            F_X12_back_50 k40 n v1 (tv_w (v2 + 1)) D8
          else none
set_option maxHeartbeats 4000000 in
set_option maxRecDepth 20000 in
theorem S_X12_back_50 {l : Launch} {E : tv_E} (hE : tv_hE E) (d : Nat) (k40 : Int → td_D → Option (Int × td_D)) (hk40 : ∀ (v1 : Int) (D : td_D), td_sim l E (d + 0) mX12_back g_m 40 [tv_R 1, tv_I v1, tv_U] [] D (k40 v1 D)) : ∀ (n : Nat) (v1 : Int) (v2 : Int) (D : td_D), td_sim l E (d + 0) mX12_back g_m 50 [tv_R 1, tv_I v1, tv_I v2] [] D (F_X12_back_50 k40 n v1 v2 D) := by
  intro n
  induction n with
  | zero => intros; exact tv_none
  | succ n ih =>
    intro v1 v2 D
    show td_sim _ _ _ _ _ _ _ _ _ (F_X12_back_50 k40 (n + 1) v1 v2 D)
    unfold F_X12_back_50
    refine ts_iload_n (i := 2) rfl rfl dX12_back_50 ?_
    refine ts_aload_n (i := 0) rfl rfl dX12_back_51 ?_
    refine td_getI tl_X12_139 rfl ga_m_1 rfl dX12_back_52 ?_
    refine td_icmp_ge (tgt := 106) rfl dX12_back_55 ?_ ?_
    · refine tq_iinc [tv_R 1, tv_I (tv_w (v1 + 1)), tv_I v2] rfl rfl rfl dX12_back_106 ?_
      refine ts_goto (tgt := 40) rfl dX12_back_109 ?_
      refine tv_weak (ls' := [tv_R 1, tv_I (tv_w (v1 + 1)), tv_U]) ⟨Or.inr rfl, Or.inr rfl, Or.inl rfl, trivial⟩ ?_
      exact hk40 (tv_w (v1 + 1)) D
    · refine ts_aload_n (i := 0) rfl rfl dX12_back_58 ?_
      refine td_getR (q := 4) tl_X12_16 rfl ga_m_1 rfl dX12_back_59 ?_
      refine ts_bipush rfl dX12_back_62 ?_
      refine ts_iload_n (i := 1) rfl rfl dX12_back_64 ?_
      refine ts_imul dX12_back_65 ?_
      refine ts_iload_n (i := 2) rfl rfl dX12_back_66 ?_
      refine ts_iadd dX12_back_67 ?_
      refine ts_iload_n (i := 1) rfl rfl dX12_back_68 ?_
      refine ts_aload_n (i := 0) rfl rfl dX12_back_69 ?_
      refine td_getI tl_X12_386 rfl ga_m_1 rfl dX12_back_70 ?_
      refine td_icmp_ge (tgt := 98) rfl dX12_back_73 ?_ ?_
      · refine ts_iconst rfl dX12_back_98 ?_
        refine td_guard (fun h3 => ?_)
        refine td_iastK ga_m_4 (gn_m_4 _) h3 dX12_back_99 ?_
        refine td_let (fun D4 => ?_)
        refine tq_iinc [tv_R 1, tv_I v1, tv_I (tv_w (v2 + 1))] rfl rfl rfl dX12_back_100 ?_
        refine ts_goto (tgt := 50) rfl dX12_back_103 ?_
        exact ih v1 (tv_w (v2 + 1)) D4
      · refine ts_iload_n (i := 2) rfl rfl dX12_back_76 ?_
        refine ts_aload_n (i := 0) rfl rfl dX12_back_77 ?_
        refine td_getI tl_X12_383 rfl ga_m_1 rfl dX12_back_78 ?_
        refine td_icmp_ge (tgt := 98) rfl dX12_back_81 ?_ ?_
        · refine ts_iconst rfl dX12_back_98 ?_
          refine td_guard (fun h5 => ?_)
          refine td_iastK ga_m_4 (gn_m_4 _) h5 dX12_back_99 ?_
          refine td_let (fun D6 => ?_)
          refine tq_iinc [tv_R 1, tv_I v1, tv_I (tv_w (v2 + 1))] rfl rfl rfl dX12_back_100 ?_
          refine ts_goto (tgt := 50) rfl dX12_back_103 ?_
          exact ih v1 (tv_w (v2 + 1)) D6
        · refine ts_aload_n (i := 0) rfl rfl dX12_back_84 ?_
          refine td_getR (q := 33) tl_X12_106 rfl ga_m_1 rfl dX12_back_85 ?_
          refine ts_bipush rfl dX12_back_88 ?_
          refine ts_iload_n (i := 1) rfl rfl dX12_back_90 ?_
          refine ts_imul dX12_back_91 ?_
          refine ts_iload_n (i := 2) rfl rfl dX12_back_92 ?_
          refine ts_iadd dX12_back_93 ?_
          refine td_guard (fun h7 => ?_)
          refine td_ialdK ga_m_33 (gn_m_33 _) h7 dX12_back_94 ?_
          refine ts_goto (tgt := 99) rfl dX12_back_95 ?_
          refine td_iastK ga_m_4 (gn_m_4 _) h7 dX12_back_99 ?_
          refine td_let (fun D8 => ?_)
          refine tq_iinc [tv_R 1, tv_I v1, tv_I (tv_w (v2 + 1))] rfl rfl rfl dX12_back_100 ?_
          refine ts_goto (tgt := 50) rfl dX12_back_103 ?_
          exact ih v1 (tv_w (v2 + 1)) D8
def F_X12_back_40 : Nat → Int → td_D → Option (Int × td_D)
  | 0, _, _ => none
  | n + 1, v1, D =>
    if D 1 3 ≤ v1 then
      F_X12_back_114 tf_N 0 D
    else
      F_X12_back_50 (fun v1 D => F_X12_back_40 n v1 D) tf_N v1 0 D
set_option maxHeartbeats 4000000 in
set_option maxRecDepth 20000 in
theorem S_X12_back_40 {l : Launch} {E : tv_E} (hE : tv_hE E) (d : Nat) : ∀ (n : Nat) (v1 : Int) (D : td_D), td_sim l E (d + 0) mX12_back g_m 40 [tv_R 1, tv_I v1, tv_U] [] D (F_X12_back_40 n v1 D) := by
  intro n
  induction n with
  | zero => intros; exact tv_none
  | succ n ih =>
    intro v1 D
    show td_sim _ _ _ _ _ _ _ _ _ (F_X12_back_40 (n + 1) v1 D)
    unfold F_X12_back_40
    refine ts_iload_n (i := 1) rfl rfl dX12_back_40 ?_
    refine ts_aload_n (i := 0) rfl rfl dX12_back_41 ?_
    refine td_getI tl_X12_146 rfl ga_m_1 rfl dX12_back_42 ?_
    refine td_icmp_ge (tgt := 112) rfl dX12_back_45 ?_ ?_
    · refine ts_iconst rfl dX12_back_112 ?_
      refine tq_istore_n [tv_R 1, tv_I 0, tv_U] rfl (Nat.le_of_ble_eq_true rfl) rfl rfl dX12_back_113 ?_
      exact S_X12_back_114 hE d tf_N 0 D
    · refine ts_iconst rfl dX12_back_48 ?_
      refine tq_istore_n [tv_R 1, tv_I v1, tv_I 0] rfl (Nat.le_of_ble_eq_true rfl) rfl rfl dX12_back_49 ?_
      exact S_X12_back_50 hE d (fun v1 D => F_X12_back_40 n v1 D) (fun v1 D => ih v1 D) tf_N v1 0 D
def F_X12_back_12 : Nat → Int → td_D → Option (Int × td_D)
  | 0, _, _ => none
  | n + 1, v1, D =>
    if D 1 45 ≤ v1 then
      F_X12_back_40 tf_N 0 D
    else
      if 0 ≤ v1 ∧ v1 < ((6 : Nat) : Int) then
        td_l (td_upd D 2 (Int.toNat v1) (D 32 (Int.toNat v1))) fun D10 =>
        F_X12_back_12 n (tv_w (v1 + 1)) D10
      else none
set_option maxHeartbeats 4000000 in
set_option maxRecDepth 20000 in
theorem S_X12_back_12 {l : Launch} {E : tv_E} (hE : tv_hE E) (d : Nat) : ∀ (n : Nat) (v1 : Int) (D : td_D), td_sim l E (d + 0) mX12_back g_m 12 [tv_R 1, tv_I v1, tv_U] [] D (F_X12_back_12 n v1 D) := by
  intro n
  induction n with
  | zero => intros; exact tv_none
  | succ n ih =>
    intro v1 D
    show td_sim _ _ _ _ _ _ _ _ _ (F_X12_back_12 (n + 1) v1 D)
    unfold F_X12_back_12
    refine ts_iload_n (i := 1) rfl rfl dX12_back_12 ?_
    refine ts_aload_n (i := 0) rfl rfl dX12_back_13 ?_
    refine td_getI tl_X12_383 rfl ga_m_1 rfl dX12_back_14 ?_
    refine td_icmp_ge (tgt := 38) rfl dX12_back_17 ?_ ?_
    · refine ts_iconst rfl dX12_back_38 ?_
      refine tq_istore_n [tv_R 1, tv_I 0, tv_U] rfl (Nat.le_of_ble_eq_true rfl) rfl rfl dX12_back_39 ?_
      exact S_X12_back_40 hE d tf_N 0 D
    · refine ts_aload_n (i := 0) rfl rfl dX12_back_20 ?_
      refine td_getR (q := 2) tl_X12_7 rfl ga_m_1 rfl dX12_back_21 ?_
      refine ts_iload_n (i := 1) rfl rfl dX12_back_24 ?_
      refine ts_aload_n (i := 0) rfl rfl dX12_back_25 ?_
      refine td_getR (q := 32) tl_X12_103 rfl ga_m_1 rfl dX12_back_26 ?_
      refine ts_iload_n (i := 1) rfl rfl dX12_back_29 ?_
      refine td_guard (fun h9 => ?_)
      refine td_ialdK ga_m_32 (gn_m_32 _) h9 dX12_back_30 ?_
      refine td_iastK ga_m_2 (gn_m_2 _) h9 dX12_back_31 ?_
      refine td_let (fun D10 => ?_)
      refine tq_iinc [tv_R 1, tv_I (tv_w (v1 + 1)), tv_U] rfl rfl rfl dX12_back_32 ?_
      refine ts_goto (tgt := 12) rfl dX12_back_35 ?_
      exact ih (tv_w (v1 + 1)) D10
def F_X12_back (D : td_D) : Option (Int × td_D) :=
  if D 1 44 = 0 then
    some ((-5), D)
  else
    F_X12_back_12 tf_N 0 D
set_option maxHeartbeats 4000000 in
set_option maxRecDepth 20000 in
theorem S_X12_back (l : Launch) {E : tv_E} (hE : tv_hE E) (d : Nat) (D : td_D) : td_msim l E (d + 0) mX12_back g_m [tv_R 1] D (F_X12_back D) := by
  refine td_meetL (ls := [tv_R 1, tv_U, tv_U]) rfl (Nat.le_of_ble_eq_true rfl) rfl ?_
  unfold F_X12_back
  refine ts_aload_n (i := 0) rfl rfl dX12_back_0 ?_
  refine td_getI tl_X12_380 rfl ga_m_1 rfl dX12_back_1 ?_
  refine td_if_ne (tgt := 10) rfl dX12_back_4 ?_ ?_
  · refine ts_bipush rfl dX12_back_7 ?_
    exact td_iret rfl dX12_back_9
  · refine ts_iconst rfl dX12_back_10 ?_
    refine tq_istore_n [tv_R 1, tv_I 0, tv_U] rfl (Nat.le_of_ble_eq_true rfl) rfl rfl dX12_back_11 ?_
    exact S_X12_back_12 hE d tf_N 0 D
def F_X12_isBody (a1 : Int) (D : td_D) : Option (Int × td_D) :=
  td_b (F_X12_in a1 0 (tv_w ((D 1 50) - 1)) D) fun r1 D2 =>
  if r1 = 0 ∨ r1 = 1 then some (r1, D2) else none
set_option maxHeartbeats 4000000 in
set_option maxRecDepth 20000 in
theorem S_X12_isBody (l : Launch) {E : tv_E} (hE : tv_hE E) (d : Nat) (a1 : Int) (D : td_D) : td_msim l E (d + 1) mX12_isBody g_m [tv_R 1, tv_I a1] D (F_X12_isBody a1 D) := by
  refine td_meetL (ls := [tv_R 1, tv_I a1]) rfl (Nat.le_of_ble_eq_true rfl) rfl ?_
  unfold F_X12_isBody
  refine ts_iload_n (i := 1) rfl rfl dX12_isBody_0 ?_
  refine ts_iconst rfl dX12_isBody_1 ?_
  refine ts_aload_n (i := 0) rfl rfl dX12_isBody_2 ?_
  refine td_getI tl_X12_389 rfl ga_m_1 rfl dX12_isBody_3 ?_
  refine ts_iconst rfl dX12_isBody_6 ?_
  refine ts_isub dX12_isBody_7 ?_
  refine tq_callS (y2 := mX12_in) [tv_I a1, tv_I 0, tv_I (tv_w ((D 1 50) - 1))] [] (st' := fun r1 => [tv_I r1]) tw_X12_in tx_X12_in tl_X12_142 rfl rfl rfl rfl (fun _ => rfl) dX12_isBody_8 (S_X12_in l hE _ a1 0 (tv_w ((D 1 50) - 1)) D) (fun r1 D2 => ?_)
  exact td_zret rfl dX12_isBody_11
def F_X12_ran (a1 : Int) (D : td_D) : Option (Int × td_D) :=
  if 24 ≤ D 1 52 then
    td_l (td_upd D 1 52 (tv_w ((D 1 52) + 1))) fun D1 =>
    some (0, D1)
  else
    if 0 ≤ D 1 52 ∧ D 1 52 < ((24 : Nat) : Int) then
      td_l (td_upd D 36 (Int.toNat (D 1 52)) a1) fun D3 =>
      td_l (td_upd D3 1 52 (tv_w ((D3 1 52) + 1))) fun D4 =>
      some (0, D4)
    else none
set_option maxHeartbeats 4000000 in
set_option maxRecDepth 20000 in
theorem S_X12_ran (l : Launch) {E : tv_E} (hE : tv_hE E) (d : Nat) (a1 : Int) (D : td_D) : td_msim l E (d + 0) mX12_ran g_m [tv_R 1, tv_I a1] D (F_X12_ran a1 D) := by
  refine td_meetL (ls := [tv_R 1, tv_I a1]) rfl (Nat.le_of_ble_eq_true rfl) rfl ?_
  unfold F_X12_ran
  refine ts_aload_n (i := 0) rfl rfl dX12_ran_0 ?_
  refine td_getI tl_X12_392 rfl ga_m_1 rfl dX12_ran_1 ?_
  refine ts_bipush rfl dX12_ran_4 ?_
  refine td_icmp_ge (tgt := 19) rfl dX12_ran_6 ?_ ?_
  · refine ts_aload_n (i := 0) rfl rfl dX12_ran_19 ?_
    refine ts_dupR dX12_ran_20 ?_
    refine td_getI tl_X12_392 rfl ga_m_1 rfl dX12_ran_21 ?_
    refine ts_iconst rfl dX12_ran_24 ?_
    refine ts_iadd dX12_ran_25 ?_
    refine td_putI tf_X12_392 (by intro h; cases h) rfl ga_m_1 rfl dX12_ran_26 ?_
    refine td_let (fun D1 => ?_)
    exact td_vret rfl dX12_ran_29
  · refine ts_aload_n (i := 0) rfl rfl dX12_ran_9 ?_
    refine td_getR (q := 36) tl_X12_115 rfl ga_m_1 rfl dX12_ran_10 ?_
    refine ts_aload_n (i := 0) rfl rfl dX12_ran_13 ?_
    refine td_getI tl_X12_392 rfl ga_m_1 rfl dX12_ran_14 ?_
    refine ts_iload_n (i := 1) rfl rfl dX12_ran_17 ?_
    refine td_guard (fun h2 => ?_)
    refine td_iastK ga_m_36 (gn_m_36 _) h2 dX12_ran_18 ?_
    refine td_let (fun D3 => ?_)
    refine ts_aload_n (i := 0) rfl rfl dX12_ran_19 ?_
    refine ts_dupR dX12_ran_20 ?_
    refine td_getI tl_X12_392 rfl ga_m_1 rfl dX12_ran_21 ?_
    refine ts_iconst rfl dX12_ran_24 ?_
    refine ts_iadd dX12_ran_25 ?_
    refine td_putI tf_X12_392 (by intro h; cases h) rfl ga_m_1 rfl dX12_ran_26 ?_
    refine td_let (fun D4 => ?_)
    exact td_vret rfl dX12_ran_29
def F_X12_trace (a1 : Int) (D : td_D) : Option (Int × td_D) :=
  if a1 < 0 then
    some ((-1), D)
  else
    if D 1 52 ≤ a1 then
      some ((-1), D)
    else
      if 24 ≤ a1 then
        some ((-1), D)
      else
        if 0 ≤ a1 ∧ a1 < ((24 : Nat) : Int) then
          some (D 36 (Int.toNat a1), D)
        else none
set_option maxHeartbeats 4000000 in
set_option maxRecDepth 20000 in
theorem S_X12_trace (l : Launch) {E : tv_E} (hE : tv_hE E) (d : Nat) (a1 : Int) (D : td_D) : td_msim l E (d + 0) mX12_trace g_m [tv_R 1, tv_I a1] D (F_X12_trace a1 D) := by
  refine td_meetL (ls := [tv_R 1, tv_I a1]) rfl (Nat.le_of_ble_eq_true rfl) rfl ?_
  unfold F_X12_trace
  refine ts_iload_n (i := 1) rfl rfl dX12_trace_0 ?_
  refine td_if_lt (tgt := 27) rfl dX12_trace_1 ?_ ?_
  · refine ts_iconst rfl dX12_trace_27 ?_
    exact td_iret rfl dX12_trace_28
  · refine ts_iload_n (i := 1) rfl rfl dX12_trace_4 ?_
    refine ts_aload_n (i := 0) rfl rfl dX12_trace_5 ?_
    refine td_getI tl_X12_392 rfl ga_m_1 rfl dX12_trace_6 ?_
    refine td_icmp_ge (tgt := 27) rfl dX12_trace_9 ?_ ?_
    · refine ts_iconst rfl dX12_trace_27 ?_
      exact td_iret rfl dX12_trace_28
    · refine ts_iload_n (i := 1) rfl rfl dX12_trace_12 ?_
      refine ts_bipush rfl dX12_trace_13 ?_
      refine td_icmp_ge (tgt := 27) rfl dX12_trace_15 ?_ ?_
      · refine ts_iconst rfl dX12_trace_27 ?_
        exact td_iret rfl dX12_trace_28
      · refine ts_aload_n (i := 0) rfl rfl dX12_trace_18 ?_
        refine td_getR (q := 36) tl_X12_115 rfl ga_m_1 rfl dX12_trace_19 ?_
        refine ts_iload_n (i := 1) rfl rfl dX12_trace_22 ?_
        refine td_guard (fun h1 => ?_)
        refine td_ialdK ga_m_36 (gn_m_36 _) h1 dX12_trace_23 ?_
        refine ts_goto (tgt := 28) rfl dX12_trace_24 ?_
        exact td_iret rfl dX12_trace_28
def F_X12_body (a1 : Int) (D : td_D) : Option (Int × td_D) :=
  td_b (F_X12_in a1 0 7 D) fun r1 D2 =>
  if r1 = 0 then
    some ((-1), D2)
  else
    if D2 1 50 = 50 then
      some ((-3), D2)
    else
      if 0 ≤ D2 1 50 ∧ D2 1 50 < ((50 : Nat) : Int) then
        td_l (td_upd D2 35 (Int.toNat (D2 1 50)) a1) fun D4 =>
        td_l (td_upd D4 1 50 (tv_w ((D4 1 50) + 1))) fun D5 =>
        some (tv_w ((D5 1 50) - 1), D5)
      else none
set_option maxHeartbeats 4000000 in
set_option maxRecDepth 20000 in
theorem S_X12_body (l : Launch) {E : tv_E} (hE : tv_hE E) (d : Nat) (a1 : Int) (D : td_D) : td_msim l E (d + 1) mX12_body g_m [tv_R 1, tv_I a1] D (F_X12_body a1 D) := by
  refine td_meetL (ls := [tv_R 1, tv_I a1]) rfl (Nat.le_of_ble_eq_true rfl) rfl ?_
  unfold F_X12_body
  refine ts_iload_n (i := 1) rfl rfl dX12_body_0 ?_
  refine ts_iconst rfl dX12_body_1 ?_
  refine ts_bipush rfl dX12_body_2 ?_
  refine tq_callS (y2 := mX12_in) [tv_I a1, tv_I 0, tv_I 7] [] (st' := fun r1 => [tv_I r1]) tw_X12_in tx_X12_in tl_X12_142 rfl rfl rfl rfl (fun _ => rfl) dX12_body_4 (S_X12_in l hE _ a1 0 7 D) (fun r1 D2 => ?_)
  refine td_if_ne (tgt := 12) rfl dX12_body_7 ?_ ?_
  · refine ts_iconst rfl dX12_body_10 ?_
    exact td_iret rfl dX12_body_11
  · refine ts_aload_n (i := 0) rfl rfl dX12_body_12 ?_
    refine td_getI tl_X12_389 rfl ga_m_1 rfl dX12_body_13 ?_
    refine ts_bipush rfl dX12_body_16 ?_
    refine td_icmp_ne (tgt := 24) rfl dX12_body_18 ?_ ?_
    · refine ts_bipush rfl dX12_body_21 ?_
      exact td_iret rfl dX12_body_23
    · refine ts_aload_n (i := 0) rfl rfl dX12_body_24 ?_
      refine td_getR (q := 35) tl_X12_112 rfl ga_m_1 rfl dX12_body_25 ?_
      refine ts_aload_n (i := 0) rfl rfl dX12_body_28 ?_
      refine td_getI tl_X12_389 rfl ga_m_1 rfl dX12_body_29 ?_
      refine ts_iload_n (i := 1) rfl rfl dX12_body_32 ?_
      refine td_guard (fun h3 => ?_)
      refine td_iastK ga_m_35 (gn_m_35 _) h3 dX12_body_33 ?_
      refine td_let (fun D4 => ?_)
      refine ts_aload_n (i := 0) rfl rfl dX12_body_34 ?_
      refine ts_dupR dX12_body_35 ?_
      refine td_getI tl_X12_389 rfl ga_m_1 rfl dX12_body_36 ?_
      refine ts_iconst rfl dX12_body_39 ?_
      refine ts_iadd dX12_body_40 ?_
      refine td_putI tf_X12_389 (by intro h; cases h) rfl ga_m_1 rfl dX12_body_41 ?_
      refine td_let (fun D5 => ?_)
      refine ts_aload_n (i := 0) rfl rfl dX12_body_44 ?_
      refine td_getI tl_X12_389 rfl ga_m_1 rfl dX12_body_45 ?_
      refine ts_iconst rfl dX12_body_48 ?_
      refine ts_isub dX12_body_49 ?_
      exact td_iret rfl dX12_body_50
def F_X12_isUnder_56 (D : td_D) : Option (Int × td_D) :=
  some (1, D)
set_option maxHeartbeats 4000000 in
set_option maxRecDepth 20000 in
theorem S_X12_isUnder_56 {l : Launch} {E : tv_E} (hE : tv_hE E) (d : Nat) (D : td_D) : td_sim l E (d + 0) mX12_isUnder g_m 56 [tv_U, tv_U] [] D (F_X12_isUnder_56 D) := by
  unfold F_X12_isUnder_56
  refine ts_iconst rfl dX12_isUnder_56 ?_
  refine ts_goto (tgt := 61) rfl dX12_isUnder_57 ?_
  exact td_zretK (Or.inr rfl) rfl dX12_isUnder_61
def F_X12_isUnder_34 (v0 : Int) (v1 : Int) (D : td_D) : Option (Int × td_D) :=
  if v1 = 3 then
    if v0 = 5 then
      F_X12_isUnder_56 D
    else
      if v1 = 6 then
        if v0 = 7 then
          F_X12_isUnder_56 D
        else
          some (0, D)
      else
        some (0, D)
  else
    if v1 = 6 then
      if v0 = 7 then
        F_X12_isUnder_56 D
      else
        some (0, D)
    else
      some (0, D)
set_option maxHeartbeats 4000000 in
set_option maxRecDepth 20000 in
theorem S_X12_isUnder_34 {l : Launch} {E : tv_E} (hE : tv_hE E) (d : Nat) (v0 : Int) (v1 : Int) (D : td_D) : td_sim l E (d + 0) mX12_isUnder g_m 34 [tv_I v0, tv_I v1] [] D (F_X12_isUnder_34 v0 v1 D) := by
  unfold F_X12_isUnder_34
  refine ts_iload_n (i := 1) rfl rfl dX12_isUnder_34 ?_
  refine ts_iconst rfl dX12_isUnder_35 ?_
  refine td_icmp_ne (tgt := 44) rfl dX12_isUnder_36 ?_ ?_
  · refine ts_iload_n (i := 0) rfl rfl dX12_isUnder_39 ?_
    refine ts_iconst rfl dX12_isUnder_40 ?_
    refine td_icmp_eq (tgt := 56) rfl dX12_isUnder_41 ?_ ?_
    · refine tv_weak (ls' := [tv_U, tv_U]) ⟨Or.inl rfl, Or.inl rfl, trivial⟩ ?_
      exact S_X12_isUnder_56 hE d D
    · refine ts_iload_n (i := 1) rfl rfl dX12_isUnder_44 ?_
      refine ts_bipush rfl dX12_isUnder_45 ?_
      refine td_icmp_ne (tgt := 60) rfl dX12_isUnder_47 ?_ ?_
      · refine ts_iload_n (i := 0) rfl rfl dX12_isUnder_50 ?_
        refine ts_bipush rfl dX12_isUnder_51 ?_
        refine td_icmp_ne (tgt := 60) rfl dX12_isUnder_53 ?_ ?_
        · refine tv_weak (ls' := [tv_U, tv_U]) ⟨Or.inl rfl, Or.inl rfl, trivial⟩ ?_
          exact S_X12_isUnder_56 hE d D
        · refine ts_iconst rfl dX12_isUnder_60 ?_
          exact td_zretK (Or.inl rfl) rfl dX12_isUnder_61
      · refine ts_iconst rfl dX12_isUnder_60 ?_
        exact td_zretK (Or.inl rfl) rfl dX12_isUnder_61
  · refine ts_iload_n (i := 1) rfl rfl dX12_isUnder_44 ?_
    refine ts_bipush rfl dX12_isUnder_45 ?_
    refine td_icmp_ne (tgt := 60) rfl dX12_isUnder_47 ?_ ?_
    · refine ts_iload_n (i := 0) rfl rfl dX12_isUnder_50 ?_
      refine ts_bipush rfl dX12_isUnder_51 ?_
      refine td_icmp_ne (tgt := 60) rfl dX12_isUnder_53 ?_ ?_
      · refine tv_weak (ls' := [tv_U, tv_U]) ⟨Or.inl rfl, Or.inl rfl, trivial⟩ ?_
        exact S_X12_isUnder_56 hE d D
      · refine ts_iconst rfl dX12_isUnder_60 ?_
        exact td_zretK (Or.inl rfl) rfl dX12_isUnder_61
    · refine ts_iconst rfl dX12_isUnder_60 ?_
      exact td_zretK (Or.inl rfl) rfl dX12_isUnder_61
def F_X12_isUnder (a0 : Int) (a1 : Int) (D : td_D) : Option (Int × td_D) :=
  if a1 = 0 then
    F_X12_isUnder_56 D
  else
    if a0 = a1 then
      F_X12_isUnder_56 D
    else
      if a1 = 1 then
        if a0 = 4 then
          F_X12_isUnder_56 D
        else
          if a1 = 2 then
            if a0 = 3 then
              F_X12_isUnder_56 D
            else
              if a0 = 5 then
                F_X12_isUnder_56 D
              else
                F_X12_isUnder_34 a0 a1 D
          else
            F_X12_isUnder_34 a0 a1 D
      else
        if a1 = 2 then
          if a0 = 3 then
            F_X12_isUnder_56 D
          else
            if a0 = 5 then
              F_X12_isUnder_56 D
            else
              F_X12_isUnder_34 a0 a1 D
        else
          F_X12_isUnder_34 a0 a1 D
set_option maxHeartbeats 4000000 in
set_option maxRecDepth 20000 in
theorem S_X12_isUnder (l : Launch) {E : tv_E} (hE : tv_hE E) (d : Nat) (a0 : Int) (a1 : Int) (D : td_D) : td_msim l E (d + 0) mX12_isUnder g_m [tv_I a0, tv_I a1] D (F_X12_isUnder a0 a1 D) := by
  refine td_meetL (ls := [tv_I a0, tv_I a1]) rfl (Nat.le_of_ble_eq_true rfl) rfl ?_
  unfold F_X12_isUnder
  refine ts_iload_n (i := 1) rfl rfl dX12_isUnder_0 ?_
  refine td_if_eq (tgt := 56) rfl dX12_isUnder_1 ?_ ?_
  · refine tv_weak (ls' := [tv_U, tv_U]) ⟨Or.inl rfl, Or.inl rfl, trivial⟩ ?_
    exact S_X12_isUnder_56 hE d D
  · refine ts_iload_n (i := 0) rfl rfl dX12_isUnder_4 ?_
    refine ts_iload_n (i := 1) rfl rfl dX12_isUnder_5 ?_
    refine td_icmp_eq (tgt := 56) rfl dX12_isUnder_6 ?_ ?_
    · refine tv_weak (ls' := [tv_U, tv_U]) ⟨Or.inl rfl, Or.inl rfl, trivial⟩ ?_
      exact S_X12_isUnder_56 hE d D
    · refine ts_iload_n (i := 1) rfl rfl dX12_isUnder_9 ?_
      refine ts_iconst rfl dX12_isUnder_10 ?_
      refine td_icmp_ne (tgt := 19) rfl dX12_isUnder_11 ?_ ?_
      · refine ts_iload_n (i := 0) rfl rfl dX12_isUnder_14 ?_
        refine ts_iconst rfl dX12_isUnder_15 ?_
        refine td_icmp_eq (tgt := 56) rfl dX12_isUnder_16 ?_ ?_
        · refine tv_weak (ls' := [tv_U, tv_U]) ⟨Or.inl rfl, Or.inl rfl, trivial⟩ ?_
          exact S_X12_isUnder_56 hE d D
        · refine ts_iload_n (i := 1) rfl rfl dX12_isUnder_19 ?_
          refine ts_iconst rfl dX12_isUnder_20 ?_
          refine td_icmp_ne (tgt := 34) rfl dX12_isUnder_21 ?_ ?_
          · refine ts_iload_n (i := 0) rfl rfl dX12_isUnder_24 ?_
            refine ts_iconst rfl dX12_isUnder_25 ?_
            refine td_icmp_eq (tgt := 56) rfl dX12_isUnder_26 ?_ ?_
            · refine tv_weak (ls' := [tv_U, tv_U]) ⟨Or.inl rfl, Or.inl rfl, trivial⟩ ?_
              exact S_X12_isUnder_56 hE d D
            · refine ts_iload_n (i := 0) rfl rfl dX12_isUnder_29 ?_
              refine ts_iconst rfl dX12_isUnder_30 ?_
              refine td_icmp_eq (tgt := 56) rfl dX12_isUnder_31 ?_ ?_
              · refine tv_weak (ls' := [tv_U, tv_U]) ⟨Or.inl rfl, Or.inl rfl, trivial⟩ ?_
                exact S_X12_isUnder_56 hE d D
              · exact S_X12_isUnder_34 hE d a0 a1 D
          · exact S_X12_isUnder_34 hE d a0 a1 D
      · refine ts_iload_n (i := 1) rfl rfl dX12_isUnder_19 ?_
        refine ts_iconst rfl dX12_isUnder_20 ?_
        refine td_icmp_ne (tgt := 34) rfl dX12_isUnder_21 ?_ ?_
        · refine ts_iload_n (i := 0) rfl rfl dX12_isUnder_24 ?_
          refine ts_iconst rfl dX12_isUnder_25 ?_
          refine td_icmp_eq (tgt := 56) rfl dX12_isUnder_26 ?_ ?_
          · refine tv_weak (ls' := [tv_U, tv_U]) ⟨Or.inl rfl, Or.inl rfl, trivial⟩ ?_
            exact S_X12_isUnder_56 hE d D
          · refine ts_iload_n (i := 0) rfl rfl dX12_isUnder_29 ?_
            refine ts_iconst rfl dX12_isUnder_30 ?_
            refine td_icmp_eq (tgt := 56) rfl dX12_isUnder_31 ?_ ?_
            · refine tv_weak (ls' := [tv_U, tv_U]) ⟨Or.inl rfl, Or.inl rfl, trivial⟩ ?_
              exact S_X12_isUnder_56 hE d D
            · exact S_X12_isUnder_34 hE d a0 a1 D
        · exact S_X12_isUnder_34 hE d a0 a1 D
def F_X12_plainKeeps (a1 : Int) (a2 : Int) (D : td_D) : Option (Int × td_D) :=
  td_b (F_X12_ran 1 D) fun _ D2 =>
  some (tv_w (a2 + a1), D2)
set_option maxHeartbeats 4000000 in
set_option maxRecDepth 20000 in
theorem S_X12_plainKeeps (l : Launch) {E : tv_E} (hE : tv_hE E) (d : Nat) (a1 : Int) (a2 : Int) (D : td_D) : td_msim l E (d + 1) mX12_plainKeeps g_m [tv_R 1, tv_I a1, tv_I a2] D (F_X12_plainKeeps a1 a2 D) := by
  refine td_meetL (ls := [tv_R 1, tv_I a1, tv_I a2]) rfl (Nat.le_of_ble_eq_true rfl) rfl ?_
  unfold F_X12_plainKeeps
  refine ts_aload_n (i := 0) rfl rfl dX12_plainKeeps_0 ?_
  refine ts_iconst rfl dX12_plainKeeps_1 ?_
  refine tq_callV (y2 := mX12_ran) [tv_I 1] [] 1 (st' := fun _ => []) tw_X12_ran tx_X12_ran tw_c12 ga_m_1 tl_X12_395 rfl rfl rfl rfl (fun _ => rfl) dX12_plainKeeps_2 (S_X12_ran l hE _ 1 D) (fun r1 D2 => ?_)
  refine ts_iload_n (i := 2) rfl rfl dX12_plainKeeps_5 ?_
  refine ts_iload_n (i := 1) rfl rfl dX12_plainKeeps_6 ?_
  refine ts_iadd dX12_plainKeeps_7 ?_
  exact td_iret rfl dX12_plainKeeps_8
def F_X12_frostKeeps (a1 : Int) (a2 : Int) (D : td_D) : Option (Int × td_D) :=
  td_b (F_X12_ran 70 D) fun _ D2 =>
  td_b (F_X12_plainKeeps a1 a2 D2) fun r3 D4 =>
  some (tv_w (r3 * 2), D4)
set_option maxHeartbeats 4000000 in
set_option maxRecDepth 20000 in
theorem S_X12_frostKeeps (l : Launch) {E : tv_E} (hE : tv_hE E) (d : Nat) (a1 : Int) (a2 : Int) (D : td_D) : td_msim l E (d + 2) mX12_frostKeeps g_m [tv_R 1, tv_I a1, tv_I a2] D (F_X12_frostKeeps a1 a2 D) := by
  refine td_meetL (ls := [tv_R 1, tv_I a1, tv_I a2]) rfl (Nat.le_of_ble_eq_true rfl) rfl ?_
  unfold F_X12_frostKeeps
  refine ts_aload_n (i := 0) rfl rfl dX12_frostKeeps_0 ?_
  refine ts_bipush rfl dX12_frostKeeps_1 ?_
  refine tq_callV (y2 := mX12_ran) [tv_I 70] [] 1 (st' := fun _ => []) tw_X12_ran tx_X12_ran tw_c12 ga_m_1 tl_X12_395 rfl rfl rfl rfl (fun _ => rfl) dX12_frostKeeps_3 (S_X12_ran l hE _ 70 D) (fun r1 D2 => ?_)
  refine ts_aload_n (i := 0) rfl rfl dX12_frostKeeps_6 ?_
  refine ts_iload_n (i := 1) rfl rfl dX12_frostKeeps_7 ?_
  refine ts_iload_n (i := 2) rfl rfl dX12_frostKeeps_8 ?_
  refine tq_callV (y2 := mX12_plainKeeps) [tv_I a1, tv_I a2] [] 1 (st' := fun r3 => [tv_I r3]) tw_X12_plainKeeps tx_X12_plainKeeps tw_c12 ga_m_1 tl_X12_398 rfl rfl rfl rfl (fun _ => rfl) dX12_frostKeeps_9 (S_X12_plainKeeps l hE _ a1 a2 D2) (fun r3 D4 => ?_)
  refine ts_iconst rfl dX12_frostKeeps_12 ?_
  refine ts_imul dX12_frostKeeps_13 ?_
  exact td_iret rfl dX12_frostKeeps_14
def F_X12_keeping (a1 : Int) (a2 : Int) (D : td_D) : Option (Int × td_D) :=
  if 0 ≤ a1 ∧ a1 < ((50 : Nat) : Int) then
    td_b (F_X12_isUnder (D 35 (Int.toNat a1)) 1 D) fun r2 D3 =>
    if r2 = 0 then
      if D3 35 (Int.toNat a1) = 7 then
        td_b (F_X12_ran 81 D3) fun _ D5 =>
        td_b (F_X12_frostKeeps a1 a2 D5) fun r6 D7 =>
        some (tv_w (r6 - 1), D7)
      else
        if D3 35 (Int.toNat a1) = 6 then
          td_b (F_X12_frostKeeps a1 a2 D3) fun r8 D9 =>
          some (r8, D9)
        else
          td_b (F_X12_plainKeeps a1 a2 D3) fun r10 D11 =>
          some (r10, D11)
    else
      td_b (F_X12_ran 20 D3) fun _ D13 =>
      td_b (F_X12_plainKeeps a1 a2 D13) fun r14 D15 =>
      some (tv_w (r14 + 3), D15)
  else none
set_option maxHeartbeats 4000000 in
set_option maxRecDepth 20000 in
theorem S_X12_keeping (l : Launch) {E : tv_E} (hE : tv_hE E) (d : Nat) (a1 : Int) (a2 : Int) (D : td_D) : td_msim l E (d + 3) mX12_keeping g_m [tv_R 1, tv_I a1, tv_I a2] D (F_X12_keeping a1 a2 D) := by
  refine td_meetL (ls := [tv_R 1, tv_I a1, tv_I a2]) rfl (Nat.le_of_ble_eq_true rfl) rfl ?_
  unfold F_X12_keeping
  refine ts_aload_n (i := 0) rfl rfl dX12_keeping_0 ?_
  refine td_getR (q := 35) tl_X12_112 rfl ga_m_1 rfl dX12_keeping_1 ?_
  refine ts_iload_n (i := 1) rfl rfl dX12_keeping_4 ?_
  refine td_guard (fun h1 => ?_)
  refine td_ialdK ga_m_35 (gn_m_35 _) h1 dX12_keeping_5 ?_
  refine ts_iconst rfl dX12_keeping_6 ?_
  refine tq_callS (y2 := mX12_isUnder) [tv_I (D 35 (Int.toNat a1)), tv_I 1] [] (st' := fun r2 => [tv_I r2]) tw_X12_isUnder tx_X12_isUnder tl_X12_401 rfl rfl rfl rfl (fun _ => rfl) dX12_keeping_7 (S_X12_isUnder l hE _ (D 35 (Int.toNat a1)) 1 D) (fun r2 D3 => ?_)
  refine td_if_eq (tgt := 28) rfl dX12_keeping_10 ?_ ?_
  · refine ts_aload_n (i := 0) rfl rfl dX12_keeping_28 ?_
    refine td_getR (q := 35) tl_X12_112 rfl ga_m_1 rfl dX12_keeping_29 ?_
    refine ts_iload_n (i := 1) rfl rfl dX12_keeping_32 ?_
    refine td_ialdK ga_m_35 (gn_m_35 _) h1 dX12_keeping_33 ?_
    refine ts_bipush rfl dX12_keeping_34 ?_
    refine td_icmp_ne (tgt := 54) rfl dX12_keeping_36 ?_ ?_
    · refine ts_aload_n (i := 0) rfl rfl dX12_keeping_39 ?_
      refine ts_bipush rfl dX12_keeping_40 ?_
      refine tq_callV (y2 := mX12_ran) [tv_I 81] [] 1 (st' := fun _ => []) tw_X12_ran tx_X12_ran tw_c12 ga_m_1 tl_X12_395 rfl rfl rfl rfl (fun _ => rfl) dX12_keeping_42 (S_X12_ran l hE _ 81 D3) (fun r4 D5 => ?_)
      refine ts_aload_n (i := 0) rfl rfl dX12_keeping_45 ?_
      refine ts_iload_n (i := 1) rfl rfl dX12_keeping_46 ?_
      refine ts_iload_n (i := 2) rfl rfl dX12_keeping_47 ?_
      refine tq_callV (y2 := mX12_frostKeeps) [tv_I a1, tv_I a2] [] 1 (st' := fun r6 => [tv_I r6]) tw_X12_frostKeeps tx_X12_frostKeeps tw_c12 ga_m_1 tl_X12_404 rfl rfl rfl rfl (fun _ => rfl) dX12_keeping_48 (S_X12_frostKeeps l hE _ a1 a2 D5) (fun r6 D7 => ?_)
      refine ts_iconst rfl dX12_keeping_51 ?_
      refine ts_isub dX12_keeping_52 ?_
      exact td_iret rfl dX12_keeping_53
    · refine ts_aload_n (i := 0) rfl rfl dX12_keeping_54 ?_
      refine td_getR (q := 35) tl_X12_112 rfl ga_m_1 rfl dX12_keeping_55 ?_
      refine ts_iload_n (i := 1) rfl rfl dX12_keeping_58 ?_
      refine td_ialdK ga_m_35 (gn_m_35 _) h1 dX12_keeping_59 ?_
      refine ts_bipush rfl dX12_keeping_60 ?_
      refine td_icmp_ne (tgt := 74) rfl dX12_keeping_62 ?_ ?_
      · refine ts_aload_n (i := 0) rfl rfl dX12_keeping_65 ?_
        refine ts_iload_n (i := 1) rfl rfl dX12_keeping_66 ?_
        refine ts_iload_n (i := 2) rfl rfl dX12_keeping_67 ?_
        refine tq_callV (y2 := mX12_frostKeeps) [tv_I a1, tv_I a2] [] 1 (st' := fun r8 => [tv_I r8]) tw_X12_frostKeeps tx_X12_frostKeeps tw_c12 ga_m_1 tl_X12_404 rfl rfl rfl rfl (fun _ => rfl) dX12_keeping_68 (S_X12_frostKeeps l hE _ a1 a2 D3) (fun r8 D9 => ?_)
        refine ts_goto (tgt := 80) rfl dX12_keeping_71 ?_
        exact td_iret rfl dX12_keeping_80
      · refine ts_aload_n (i := 0) rfl rfl dX12_keeping_74 ?_
        refine ts_iload_n (i := 1) rfl rfl dX12_keeping_75 ?_
        refine ts_iload_n (i := 2) rfl rfl dX12_keeping_76 ?_
        refine tq_callV (y2 := mX12_plainKeeps) [tv_I a1, tv_I a2] [] 1 (st' := fun r10 => [tv_I r10]) tw_X12_plainKeeps tx_X12_plainKeeps tw_c12 ga_m_1 tl_X12_398 rfl rfl rfl rfl (fun _ => rfl) dX12_keeping_77 (S_X12_plainKeeps l hE _ a1 a2 D3) (fun r10 D11 => ?_)
        exact td_iret rfl dX12_keeping_80
  · refine ts_aload_n (i := 0) rfl rfl dX12_keeping_13 ?_
    refine ts_bipush rfl dX12_keeping_14 ?_
    refine tq_callV (y2 := mX12_ran) [tv_I 20] [] 1 (st' := fun _ => []) tw_X12_ran tx_X12_ran tw_c12 ga_m_1 tl_X12_395 rfl rfl rfl rfl (fun _ => rfl) dX12_keeping_16 (S_X12_ran l hE _ 20 D3) (fun r12 D13 => ?_)
    refine ts_aload_n (i := 0) rfl rfl dX12_keeping_19 ?_
    refine ts_iload_n (i := 1) rfl rfl dX12_keeping_20 ?_
    refine ts_iload_n (i := 2) rfl rfl dX12_keeping_21 ?_
    refine tq_callV (y2 := mX12_plainKeeps) [tv_I a1, tv_I a2] [] 1 (st' := fun r14 => [tv_I r14]) tw_X12_plainKeeps tx_X12_plainKeeps tw_c12 ga_m_1 tl_X12_398 rfl rfl rfl rfl (fun _ => rfl) dX12_keeping_22 (S_X12_plainKeeps l hE _ a1 a2 D13) (fun r14 D15 => ?_)
    refine ts_iconst rfl dX12_keeping_25 ?_
    refine ts_iadd dX12_keeping_26 ?_
    exact td_iret rfl dX12_keeping_27
def F_X12_plainStings (a1 : Int) (a2 : Int) (D : td_D) : Option (Int × td_D) :=
  td_b (F_X12_ran 10 D) fun _ D2 =>
  td_b (F_X12_keeping a1 a2 D2) fun r3 D4 =>
  some (tv_w (r3 * 2), D4)
set_option maxHeartbeats 4000000 in
set_option maxRecDepth 20000 in
theorem S_X12_plainStings (l : Launch) {E : tv_E} (hE : tv_hE E) (d : Nat) (a1 : Int) (a2 : Int) (D : td_D) : td_msim l E (d + 4) mX12_plainStings g_m [tv_R 1, tv_I a1, tv_I a2] D (F_X12_plainStings a1 a2 D) := by
  refine td_meetL (ls := [tv_R 1, tv_I a1, tv_I a2]) rfl (Nat.le_of_ble_eq_true rfl) rfl ?_
  unfold F_X12_plainStings
  refine ts_aload_n (i := 0) rfl rfl dX12_plainStings_0 ?_
  refine ts_bipush rfl dX12_plainStings_1 ?_
  refine tq_callV (y2 := mX12_ran) [tv_I 10] [] 1 (st' := fun _ => []) tw_X12_ran tx_X12_ran tw_c12 ga_m_1 tl_X12_395 rfl rfl rfl rfl (fun _ => rfl) dX12_plainStings_3 (S_X12_ran l hE _ 10 D) (fun r1 D2 => ?_)
  refine ts_aload_n (i := 0) rfl rfl dX12_plainStings_6 ?_
  refine ts_iload_n (i := 1) rfl rfl dX12_plainStings_7 ?_
  refine ts_iload_n (i := 2) rfl rfl dX12_plainStings_8 ?_
  refine tq_callV (y2 := mX12_keeping) [tv_I a1, tv_I a2] [] 1 (st' := fun r3 => [tv_I r3]) tw_X12_keeping tx_X12_keeping tw_c12 ga_m_1 tl_X12_407 rfl rfl rfl rfl (fun _ => rfl) dX12_plainStings_9 (S_X12_keeping l hE _ a1 a2 D2) (fun r3 D4 => ?_)
  refine ts_iconst rfl dX12_plainStings_12 ?_
  refine ts_imul dX12_plainStings_13 ?_
  exact td_iret rfl dX12_plainStings_14
def F_X12_veilStings (a1 : Int) (a2 : Int) (D : td_D) : Option (Int × td_D) :=
  td_b (F_X12_ran 30 D) fun _ D2 =>
  td_b (F_X12_plainStings a1 a2 D2) fun r3 D4 =>
  some (tv_w (-r3), D4)
set_option maxHeartbeats 4000000 in
set_option maxRecDepth 20000 in
theorem S_X12_veilStings (l : Launch) {E : tv_E} (hE : tv_hE E) (d : Nat) (a1 : Int) (a2 : Int) (D : td_D) : td_msim l E (d + 5) mX12_veilStings g_m [tv_R 1, tv_I a1, tv_I a2] D (F_X12_veilStings a1 a2 D) := by
  refine td_meetL (ls := [tv_R 1, tv_I a1, tv_I a2]) rfl (Nat.le_of_ble_eq_true rfl) rfl ?_
  unfold F_X12_veilStings
  refine ts_aload_n (i := 0) rfl rfl dX12_veilStings_0 ?_
  refine ts_bipush rfl dX12_veilStings_1 ?_
  refine tq_callV (y2 := mX12_ran) [tv_I 30] [] 1 (st' := fun _ => []) tw_X12_ran tx_X12_ran tw_c12 ga_m_1 tl_X12_395 rfl rfl rfl rfl (fun _ => rfl) dX12_veilStings_3 (S_X12_ran l hE _ 30 D) (fun r1 D2 => ?_)
  refine ts_aload_n (i := 0) rfl rfl dX12_veilStings_6 ?_
  refine ts_iload_n (i := 1) rfl rfl dX12_veilStings_7 ?_
  refine ts_iload_n (i := 2) rfl rfl dX12_veilStings_8 ?_
  refine tq_callV (y2 := mX12_plainStings) [tv_I a1, tv_I a2] [] 1 (st' := fun r3 => [tv_I r3]) tw_X12_plainStings tx_X12_plainStings tw_c12 ga_m_1 tl_X12_410 rfl rfl rfl rfl (fun _ => rfl) dX12_veilStings_9 (S_X12_plainStings l hE _ a1 a2 D2) (fun r3 D4 => ?_)
  refine ts_ineg dX12_veilStings_12 ?_
  exact td_iret rfl dX12_veilStings_13
def F_X12_plainGrows (a1 : Int) (a2 : Int) (D : td_D) : Option (Int × td_D) :=
  td_b (F_X12_ran 11 D) fun _ D2 =>
  some (tv_xor a2 a1, D2)
set_option maxHeartbeats 4000000 in
set_option maxRecDepth 20000 in
theorem S_X12_plainGrows (l : Launch) {E : tv_E} (hE : tv_hE E) (d : Nat) (a1 : Int) (a2 : Int) (D : td_D) : td_msim l E (d + 1) mX12_plainGrows g_m [tv_R 1, tv_I a1, tv_I a2] D (F_X12_plainGrows a1 a2 D) := by
  refine td_meetL (ls := [tv_R 1, tv_I a1, tv_I a2]) rfl (Nat.le_of_ble_eq_true rfl) rfl ?_
  unfold F_X12_plainGrows
  refine ts_aload_n (i := 0) rfl rfl dX12_plainGrows_0 ?_
  refine ts_bipush rfl dX12_plainGrows_1 ?_
  refine tq_callV (y2 := mX12_ran) [tv_I 11] [] 1 (st' := fun _ => []) tw_X12_ran tx_X12_ran tw_c12 ga_m_1 tl_X12_395 rfl rfl rfl rfl (fun _ => rfl) dX12_plainGrows_3 (S_X12_ran l hE _ 11 D) (fun r1 D2 => ?_)
  refine ts_iload_n (i := 2) rfl rfl dX12_plainGrows_6 ?_
  refine ts_iload_n (i := 1) rfl rfl dX12_plainGrows_7 ?_
  refine ts_ixor dX12_plainGrows_8 ?_
  exact td_iret rfl dX12_plainGrows_9
def F_X12_slateGrows (a1 : Int) (a2 : Int) (D : td_D) : Option (Int × td_D) :=
  td_b (F_X12_ran 40 D) fun _ D2 =>
  td_b (F_X12_plainGrows a1 a2 D2) fun r3 D4 =>
  some (tv_w (r3 * 3), D4)
set_option maxHeartbeats 4000000 in
set_option maxRecDepth 20000 in
theorem S_X12_slateGrows (l : Launch) {E : tv_E} (hE : tv_hE E) (d : Nat) (a1 : Int) (a2 : Int) (D : td_D) : td_msim l E (d + 2) mX12_slateGrows g_m [tv_R 1, tv_I a1, tv_I a2] D (F_X12_slateGrows a1 a2 D) := by
  refine td_meetL (ls := [tv_R 1, tv_I a1, tv_I a2]) rfl (Nat.le_of_ble_eq_true rfl) rfl ?_
  unfold F_X12_slateGrows
  refine ts_aload_n (i := 0) rfl rfl dX12_slateGrows_0 ?_
  refine ts_bipush rfl dX12_slateGrows_1 ?_
  refine tq_callV (y2 := mX12_ran) [tv_I 40] [] 1 (st' := fun _ => []) tw_X12_ran tx_X12_ran tw_c12 ga_m_1 tl_X12_395 rfl rfl rfl rfl (fun _ => rfl) dX12_slateGrows_3 (S_X12_ran l hE _ 40 D) (fun r1 D2 => ?_)
  refine ts_aload_n (i := 0) rfl rfl dX12_slateGrows_6 ?_
  refine ts_iload_n (i := 1) rfl rfl dX12_slateGrows_7 ?_
  refine ts_iload_n (i := 2) rfl rfl dX12_slateGrows_8 ?_
  refine tq_callV (y2 := mX12_plainGrows) [tv_I a1, tv_I a2] [] 1 (st' := fun r3 => [tv_I r3]) tw_X12_plainGrows tx_X12_plainGrows tw_c12 ga_m_1 tl_X12_419 rfl rfl rfl rfl (fun _ => rfl) dX12_slateGrows_9 (S_X12_plainGrows l hE _ a1 a2 D2) (fun r3 D4 => ?_)
  refine ts_iconst rfl dX12_slateGrows_12 ?_
  refine ts_imul dX12_slateGrows_13 ?_
  exact td_iret rfl dX12_slateGrows_14
def F_X12_growing (a1 : Int) (a2 : Int) (D : td_D) : Option (Int × td_D) :=
  if 0 ≤ a1 ∧ a1 < ((50 : Nat) : Int) then
    if D 35 (Int.toNat a1) = 5 then
      td_b (F_X12_ran 60 D) fun _ D3 =>
      td_b (F_X12_slateGrows a1 a2 D3) fun r4 D5 =>
      td_b (F_X12_keeping a1 2 D5) fun r6 D7 =>
      some (tv_w (r4 - r6), D7)
    else
      if D 35 (Int.toNat a1) = 3 then
        td_b (F_X12_slateGrows a1 a2 D) fun r8 D9 =>
        some (r8, D9)
      else
        td_b (F_X12_plainGrows a1 a2 D) fun r10 D11 =>
        some (r10, D11)
  else none
set_option maxHeartbeats 4000000 in
set_option maxRecDepth 20000 in
theorem S_X12_growing (l : Launch) {E : tv_E} (hE : tv_hE E) (d : Nat) (a1 : Int) (a2 : Int) (D : td_D) : td_msim l E (d + 4) mX12_growing g_m [tv_R 1, tv_I a1, tv_I a2] D (F_X12_growing a1 a2 D) := by
  refine td_meetL (ls := [tv_R 1, tv_I a1, tv_I a2, tv_U]) rfl (Nat.le_of_ble_eq_true rfl) rfl ?_
  unfold F_X12_growing
  refine ts_aload_n (i := 0) rfl rfl dX12_growing_0 ?_
  refine td_getR (q := 35) tl_X12_112 rfl ga_m_1 rfl dX12_growing_1 ?_
  refine ts_iload_n (i := 1) rfl rfl dX12_growing_4 ?_
  refine td_guard (fun h1 => ?_)
  refine td_ialdK ga_m_35 (gn_m_35 _) h1 dX12_growing_5 ?_
  refine ts_iconst rfl dX12_growing_6 ?_
  refine td_icmp_ne (tgt := 32) rfl dX12_growing_7 ?_ ?_
  · refine ts_aload_n (i := 0) rfl rfl dX12_growing_10 ?_
    refine ts_bipush rfl dX12_growing_11 ?_
    refine tq_callV (y2 := mX12_ran) [tv_I 60] [] 1 (st' := fun _ => []) tw_X12_ran tx_X12_ran tw_c12 ga_m_1 tl_X12_395 rfl rfl rfl rfl (fun _ => rfl) dX12_growing_13 (S_X12_ran l hE _ 60 D) (fun r2 D3 => ?_)
    refine ts_aload_n (i := 0) rfl rfl dX12_growing_16 ?_
    refine ts_iload_n (i := 1) rfl rfl dX12_growing_17 ?_
    refine ts_iload_n (i := 2) rfl rfl dX12_growing_18 ?_
    refine tq_callV (y2 := mX12_slateGrows) [tv_I a1, tv_I a2] [] 1 (st' := fun r4 => [tv_I r4]) tw_X12_slateGrows tx_X12_slateGrows tw_c12 ga_m_1 tl_X12_422 rfl rfl rfl rfl (fun _ => rfl) dX12_growing_19 (S_X12_slateGrows l hE _ a1 a2 D3) (fun r4 D5 => ?_)
    refine tq_istore_n [tv_R 1, tv_I a1, tv_I a2, tv_I r4] rfl (Nat.le_of_ble_eq_true rfl) rfl rfl dX12_growing_22 ?_
    refine ts_iload_n (i := 3) rfl rfl dX12_growing_23 ?_
    refine ts_aload_n (i := 0) rfl rfl dX12_growing_24 ?_
    refine ts_iload_n (i := 1) rfl rfl dX12_growing_25 ?_
    refine ts_iconst rfl dX12_growing_26 ?_
    refine tq_callV (y2 := mX12_keeping) [tv_I a1, tv_I 2] [tv_I r4] 1 (st' := fun r6 => [tv_I r6, tv_I r4]) tw_X12_keeping tx_X12_keeping tw_c12 ga_m_1 tl_X12_407 rfl rfl rfl rfl (fun _ => rfl) dX12_growing_27 (S_X12_keeping l hE _ a1 2 D5) (fun r6 D7 => ?_)
    refine ts_isub dX12_growing_30 ?_
    exact td_iret rfl dX12_growing_31
  · refine ts_aload_n (i := 0) rfl rfl dX12_growing_32 ?_
    refine td_getR (q := 35) tl_X12_112 rfl ga_m_1 rfl dX12_growing_33 ?_
    refine ts_iload_n (i := 1) rfl rfl dX12_growing_36 ?_
    refine td_ialdK ga_m_35 (gn_m_35 _) h1 dX12_growing_37 ?_
    refine ts_iconst rfl dX12_growing_38 ?_
    refine td_icmp_ne (tgt := 51) rfl dX12_growing_39 ?_ ?_
    · refine ts_aload_n (i := 0) rfl rfl dX12_growing_42 ?_
      refine ts_iload_n (i := 1) rfl rfl dX12_growing_43 ?_
      refine ts_iload_n (i := 2) rfl rfl dX12_growing_44 ?_
      refine tq_callV (y2 := mX12_slateGrows) [tv_I a1, tv_I a2] [] 1 (st' := fun r8 => [tv_I r8]) tw_X12_slateGrows tx_X12_slateGrows tw_c12 ga_m_1 tl_X12_422 rfl rfl rfl rfl (fun _ => rfl) dX12_growing_45 (S_X12_slateGrows l hE _ a1 a2 D) (fun r8 D9 => ?_)
      refine ts_goto (tgt := 57) rfl dX12_growing_48 ?_
      exact td_iret rfl dX12_growing_57
    · refine ts_aload_n (i := 0) rfl rfl dX12_growing_51 ?_
      refine ts_iload_n (i := 1) rfl rfl dX12_growing_52 ?_
      refine ts_iload_n (i := 2) rfl rfl dX12_growing_53 ?_
      refine tq_callV (y2 := mX12_plainGrows) [tv_I a1, tv_I a2] [] 1 (st' := fun r10 => [tv_I r10]) tw_X12_plainGrows tx_X12_plainGrows tw_c12 ga_m_1 tl_X12_419 rfl rfl rfl rfl (fun _ => rfl) dX12_growing_54 (S_X12_plainGrows l hE _ a1 a2 D) (fun r10 D11 => ?_)
      exact td_iret rfl dX12_growing_57
def F_X12_stinging (a1 : Int) (a2 : Int) (D : td_D) : Option (Int × td_D) :=
  if 0 ≤ a1 ∧ a1 < ((50 : Nat) : Int) then
    td_b (F_X12_isUnder (D 35 (Int.toNat a1)) 3 D) fun r2 D3 =>
    if r2 = 0 then
      if D3 35 (Int.toNat a1) = 7 then
        td_b (F_X12_ran 80 D3) fun _ D5 =>
        td_b (F_X12_plainStings a1 a2 D5) fun r6 D7 =>
        td_b (F_X12_growing a1 2 D7) fun r8 D9 =>
        some (tv_w (r6 + r8), D9)
      else
        if D3 35 (Int.toNat a1) = 2 then
          td_b (F_X12_veilStings a1 a2 D3) fun r10 D11 =>
          some (r10, D11)
        else
          td_b (F_X12_plainStings a1 a2 D3) fun r12 D13 =>
          some (r12, D13)
    else
      td_b (F_X12_ran 41 D3) fun _ D15 =>
      td_b (F_X12_veilStings a1 (tv_w (a2 + 1)) D15) fun r16 D17 =>
      some (r16, D17)
  else none
set_option maxHeartbeats 4000000 in
set_option maxRecDepth 20000 in
theorem S_X12_stinging (l : Launch) {E : tv_E} (hE : tv_hE E) (d : Nat) (a1 : Int) (a2 : Int) (D : td_D) : td_msim l E (d + 6) mX12_stinging g_m [tv_R 1, tv_I a1, tv_I a2] D (F_X12_stinging a1 a2 D) := by
  refine td_meetL (ls := [tv_R 1, tv_I a1, tv_I a2, tv_U]) rfl (Nat.le_of_ble_eq_true rfl) rfl ?_
  unfold F_X12_stinging
  refine ts_aload_n (i := 0) rfl rfl dX12_stinging_0 ?_
  refine td_getR (q := 35) tl_X12_112 rfl ga_m_1 rfl dX12_stinging_1 ?_
  refine ts_iload_n (i := 1) rfl rfl dX12_stinging_4 ?_
  refine td_guard (fun h1 => ?_)
  refine td_ialdK ga_m_35 (gn_m_35 _) h1 dX12_stinging_5 ?_
  refine ts_iconst rfl dX12_stinging_6 ?_
  refine tq_callS (y2 := mX12_isUnder) [tv_I (D 35 (Int.toNat a1)), tv_I 3] [] (st' := fun r2 => [tv_I r2]) tw_X12_isUnder tx_X12_isUnder tl_X12_401 rfl rfl rfl rfl (fun _ => rfl) dX12_stinging_7 (S_X12_isUnder l hE _ (D 35 (Int.toNat a1)) 3 D) (fun r2 D3 => ?_)
  refine td_if_eq (tgt := 28) rfl dX12_stinging_10 ?_ ?_
  · refine ts_aload_n (i := 0) rfl rfl dX12_stinging_28 ?_
    refine td_getR (q := 35) tl_X12_112 rfl ga_m_1 rfl dX12_stinging_29 ?_
    refine ts_iload_n (i := 1) rfl rfl dX12_stinging_32 ?_
    refine td_ialdK ga_m_35 (gn_m_35 _) h1 dX12_stinging_33 ?_
    refine ts_bipush rfl dX12_stinging_34 ?_
    refine td_icmp_ne (tgt := 61) rfl dX12_stinging_36 ?_ ?_
    · refine ts_aload_n (i := 0) rfl rfl dX12_stinging_39 ?_
      refine ts_bipush rfl dX12_stinging_40 ?_
      refine tq_callV (y2 := mX12_ran) [tv_I 80] [] 1 (st' := fun _ => []) tw_X12_ran tx_X12_ran tw_c12 ga_m_1 tl_X12_395 rfl rfl rfl rfl (fun _ => rfl) dX12_stinging_42 (S_X12_ran l hE _ 80 D3) (fun r4 D5 => ?_)
      refine ts_aload_n (i := 0) rfl rfl dX12_stinging_45 ?_
      refine ts_iload_n (i := 1) rfl rfl dX12_stinging_46 ?_
      refine ts_iload_n (i := 2) rfl rfl dX12_stinging_47 ?_
      refine tq_callV (y2 := mX12_plainStings) [tv_I a1, tv_I a2] [] 1 (st' := fun r6 => [tv_I r6]) tw_X12_plainStings tx_X12_plainStings tw_c12 ga_m_1 tl_X12_410 rfl rfl rfl rfl (fun _ => rfl) dX12_stinging_48 (S_X12_plainStings l hE _ a1 a2 D5) (fun r6 D7 => ?_)
      refine tq_istore_n [tv_R 1, tv_I a1, tv_I a2, tv_I r6] rfl (Nat.le_of_ble_eq_true rfl) rfl rfl dX12_stinging_51 ?_
      refine ts_iload_n (i := 3) rfl rfl dX12_stinging_52 ?_
      refine ts_aload_n (i := 0) rfl rfl dX12_stinging_53 ?_
      refine ts_iload_n (i := 1) rfl rfl dX12_stinging_54 ?_
      refine ts_iconst rfl dX12_stinging_55 ?_
      refine tq_callV (y2 := mX12_growing) [tv_I a1, tv_I 2] [tv_I r6] 1 (st' := fun r8 => [tv_I r8, tv_I r6]) tw_X12_growing tx_X12_growing tw_c12 ga_m_1 tl_X12_416 rfl rfl rfl rfl (fun _ => rfl) dX12_stinging_56 (S_X12_growing l hE _ a1 2 D7) (fun r8 D9 => ?_)
      refine ts_iadd dX12_stinging_59 ?_
      exact td_iret rfl dX12_stinging_60
    · refine ts_aload_n (i := 0) rfl rfl dX12_stinging_61 ?_
      refine td_getR (q := 35) tl_X12_112 rfl ga_m_1 rfl dX12_stinging_62 ?_
      refine ts_iload_n (i := 1) rfl rfl dX12_stinging_65 ?_
      refine td_ialdK ga_m_35 (gn_m_35 _) h1 dX12_stinging_66 ?_
      refine ts_iconst rfl dX12_stinging_67 ?_
      refine td_icmp_ne (tgt := 80) rfl dX12_stinging_68 ?_ ?_
      · refine ts_aload_n (i := 0) rfl rfl dX12_stinging_71 ?_
        refine ts_iload_n (i := 1) rfl rfl dX12_stinging_72 ?_
        refine ts_iload_n (i := 2) rfl rfl dX12_stinging_73 ?_
        refine tq_callV (y2 := mX12_veilStings) [tv_I a1, tv_I a2] [] 1 (st' := fun r10 => [tv_I r10]) tw_X12_veilStings tx_X12_veilStings tw_c12 ga_m_1 tl_X12_413 rfl rfl rfl rfl (fun _ => rfl) dX12_stinging_74 (S_X12_veilStings l hE _ a1 a2 D3) (fun r10 D11 => ?_)
        refine ts_goto (tgt := 86) rfl dX12_stinging_77 ?_
        exact td_iret rfl dX12_stinging_86
      · refine ts_aload_n (i := 0) rfl rfl dX12_stinging_80 ?_
        refine ts_iload_n (i := 1) rfl rfl dX12_stinging_81 ?_
        refine ts_iload_n (i := 2) rfl rfl dX12_stinging_82 ?_
        refine tq_callV (y2 := mX12_plainStings) [tv_I a1, tv_I a2] [] 1 (st' := fun r12 => [tv_I r12]) tw_X12_plainStings tx_X12_plainStings tw_c12 ga_m_1 tl_X12_410 rfl rfl rfl rfl (fun _ => rfl) dX12_stinging_83 (S_X12_plainStings l hE _ a1 a2 D3) (fun r12 D13 => ?_)
        exact td_iret rfl dX12_stinging_86
  · refine ts_aload_n (i := 0) rfl rfl dX12_stinging_13 ?_
    refine ts_bipush rfl dX12_stinging_14 ?_
    refine tq_callV (y2 := mX12_ran) [tv_I 41] [] 1 (st' := fun _ => []) tw_X12_ran tx_X12_ran tw_c12 ga_m_1 tl_X12_395 rfl rfl rfl rfl (fun _ => rfl) dX12_stinging_16 (S_X12_ran l hE _ 41 D3) (fun r14 D15 => ?_)
    refine ts_aload_n (i := 0) rfl rfl dX12_stinging_19 ?_
    refine ts_iload_n (i := 1) rfl rfl dX12_stinging_20 ?_
    refine ts_iload_n (i := 2) rfl rfl dX12_stinging_21 ?_
    refine ts_iconst rfl dX12_stinging_22 ?_
    refine ts_iadd dX12_stinging_23 ?_
    refine tq_callV (y2 := mX12_veilStings) [tv_I a1, tv_I (tv_w (a2 + 1))] [] 1 (st' := fun r16 => [tv_I r16]) tw_X12_veilStings tx_X12_veilStings tw_c12 ga_m_1 tl_X12_413 rfl rfl rfl rfl (fun _ => rfl) dX12_stinging_24 (S_X12_veilStings l hE _ a1 (tv_w (a2 + 1)) D15) (fun r16 D17 => ?_)
    exact td_iret rfl dX12_stinging_27
def F_X12_plainTells (a1 : Int) (a2 : Int) (D : td_D) : Option (Int × td_D) :=
  td_b (F_X12_ran 2 D) fun _ D2 =>
  td_b (F_X12_stinging a1 a2 D2) fun r3 D4 =>
  td_b (F_X12_growing a1 1 D4) fun r5 D6 =>
  some (tv_w (r3 - r5), D6)
set_option maxHeartbeats 4000000 in
set_option maxRecDepth 20000 in
theorem S_X12_plainTells (l : Launch) {E : tv_E} (hE : tv_hE E) (d : Nat) (a1 : Int) (a2 : Int) (D : td_D) : td_msim l E (d + 7) mX12_plainTells g_m [tv_R 1, tv_I a1, tv_I a2] D (F_X12_plainTells a1 a2 D) := by
  refine td_meetL (ls := [tv_R 1, tv_I a1, tv_I a2, tv_U]) rfl (Nat.le_of_ble_eq_true rfl) rfl ?_
  unfold F_X12_plainTells
  refine ts_aload_n (i := 0) rfl rfl dX12_plainTells_0 ?_
  refine ts_iconst rfl dX12_plainTells_1 ?_
  refine tq_callV (y2 := mX12_ran) [tv_I 2] [] 1 (st' := fun _ => []) tw_X12_ran tx_X12_ran tw_c12 ga_m_1 tl_X12_395 rfl rfl rfl rfl (fun _ => rfl) dX12_plainTells_2 (S_X12_ran l hE _ 2 D) (fun r1 D2 => ?_)
  refine ts_aload_n (i := 0) rfl rfl dX12_plainTells_5 ?_
  refine ts_iload_n (i := 1) rfl rfl dX12_plainTells_6 ?_
  refine ts_iload_n (i := 2) rfl rfl dX12_plainTells_7 ?_
  refine tq_callV (y2 := mX12_stinging) [tv_I a1, tv_I a2] [] 1 (st' := fun r3 => [tv_I r3]) tw_X12_stinging tx_X12_stinging tw_c12 ga_m_1 tl_X12_425 rfl rfl rfl rfl (fun _ => rfl) dX12_plainTells_8 (S_X12_stinging l hE _ a1 a2 D2) (fun r3 D4 => ?_)
  refine tq_istore_n [tv_R 1, tv_I a1, tv_I a2, tv_I r3] rfl (Nat.le_of_ble_eq_true rfl) rfl rfl dX12_plainTells_11 ?_
  refine ts_iload_n (i := 3) rfl rfl dX12_plainTells_12 ?_
  refine ts_aload_n (i := 0) rfl rfl dX12_plainTells_13 ?_
  refine ts_iload_n (i := 1) rfl rfl dX12_plainTells_14 ?_
  refine ts_iconst rfl dX12_plainTells_15 ?_
  refine tq_callV (y2 := mX12_growing) [tv_I a1, tv_I 1] [tv_I r3] 1 (st' := fun r5 => [tv_I r5, tv_I r3]) tw_X12_growing tx_X12_growing tw_c12 ga_m_1 tl_X12_416 rfl rfl rfl rfl (fun _ => rfl) dX12_plainTells_16 (S_X12_growing l hE _ a1 1 D4) (fun r5 D6 => ?_)
  refine ts_isub dX12_plainTells_19 ?_
  exact td_iret rfl dX12_plainTells_20
def F_X12_telling (a1 : Int) (a2 : Int) (D : td_D) : Option (Int × td_D) :=
  if 0 ≤ a1 ∧ a1 < ((50 : Nat) : Int) then
    if D 35 (Int.toNat a1) = 4 then
      td_b (F_X12_ran 50 D) fun _ D3 =>
      td_b (F_X12_plainTells a1 a2 D3) fun r4 D5 =>
      some (tv_xor r4 5, D5)
    else
      if D 35 (Int.toNat a1) = 5 then
        td_b (F_X12_ran 61 D) fun _ D7 =>
        td_b (F_X12_plainTells a1 a2 D7) fun r8 D9 =>
        some (tv_w (r8 + 1), D9)
      else
        td_b (F_X12_plainTells a1 a2 D) fun r10 D11 =>
        some (r10, D11)
  else none
set_option maxHeartbeats 4000000 in
set_option maxRecDepth 20000 in
theorem S_X12_telling (l : Launch) {E : tv_E} (hE : tv_hE E) (d : Nat) (a1 : Int) (a2 : Int) (D : td_D) : td_msim l E (d + 8) mX12_telling g_m [tv_R 1, tv_I a1, tv_I a2] D (F_X12_telling a1 a2 D) := by
  refine td_meetL (ls := [tv_R 1, tv_I a1, tv_I a2]) rfl (Nat.le_of_ble_eq_true rfl) rfl ?_
  unfold F_X12_telling
  refine ts_aload_n (i := 0) rfl rfl dX12_telling_0 ?_
  refine td_getR (q := 35) tl_X12_112 rfl ga_m_1 rfl dX12_telling_1 ?_
  refine ts_iload_n (i := 1) rfl rfl dX12_telling_4 ?_
  refine td_guard (fun h1 => ?_)
  refine td_ialdK ga_m_35 (gn_m_35 _) h1 dX12_telling_5 ?_
  refine ts_iconst rfl dX12_telling_6 ?_
  refine td_icmp_ne (tgt := 25) rfl dX12_telling_7 ?_ ?_
  · refine ts_aload_n (i := 0) rfl rfl dX12_telling_10 ?_
    refine ts_bipush rfl dX12_telling_11 ?_
    refine tq_callV (y2 := mX12_ran) [tv_I 50] [] 1 (st' := fun _ => []) tw_X12_ran tx_X12_ran tw_c12 ga_m_1 tl_X12_395 rfl rfl rfl rfl (fun _ => rfl) dX12_telling_13 (S_X12_ran l hE _ 50 D) (fun r2 D3 => ?_)
    refine ts_aload_n (i := 0) rfl rfl dX12_telling_16 ?_
    refine ts_iload_n (i := 1) rfl rfl dX12_telling_17 ?_
    refine ts_iload_n (i := 2) rfl rfl dX12_telling_18 ?_
    refine tq_callV (y2 := mX12_plainTells) [tv_I a1, tv_I a2] [] 1 (st' := fun r4 => [tv_I r4]) tw_X12_plainTells tx_X12_plainTells tw_c12 ga_m_1 tl_X12_428 rfl rfl rfl rfl (fun _ => rfl) dX12_telling_19 (S_X12_plainTells l hE _ a1 a2 D3) (fun r4 D5 => ?_)
    refine ts_iconst rfl dX12_telling_22 ?_
    refine ts_ixor dX12_telling_23 ?_
    exact td_iret rfl dX12_telling_24
  · refine ts_aload_n (i := 0) rfl rfl dX12_telling_25 ?_
    refine td_getR (q := 35) tl_X12_112 rfl ga_m_1 rfl dX12_telling_26 ?_
    refine ts_iload_n (i := 1) rfl rfl dX12_telling_29 ?_
    refine td_ialdK ga_m_35 (gn_m_35 _) h1 dX12_telling_30 ?_
    refine ts_iconst rfl dX12_telling_31 ?_
    refine td_icmp_ne (tgt := 50) rfl dX12_telling_32 ?_ ?_
    · refine ts_aload_n (i := 0) rfl rfl dX12_telling_35 ?_
      refine ts_bipush rfl dX12_telling_36 ?_
      refine tq_callV (y2 := mX12_ran) [tv_I 61] [] 1 (st' := fun _ => []) tw_X12_ran tx_X12_ran tw_c12 ga_m_1 tl_X12_395 rfl rfl rfl rfl (fun _ => rfl) dX12_telling_38 (S_X12_ran l hE _ 61 D) (fun r6 D7 => ?_)
      refine ts_aload_n (i := 0) rfl rfl dX12_telling_41 ?_
      refine ts_iload_n (i := 1) rfl rfl dX12_telling_42 ?_
      refine ts_iload_n (i := 2) rfl rfl dX12_telling_43 ?_
      refine tq_callV (y2 := mX12_plainTells) [tv_I a1, tv_I a2] [] 1 (st' := fun r8 => [tv_I r8]) tw_X12_plainTells tx_X12_plainTells tw_c12 ga_m_1 tl_X12_428 rfl rfl rfl rfl (fun _ => rfl) dX12_telling_44 (S_X12_plainTells l hE _ a1 a2 D7) (fun r8 D9 => ?_)
      refine ts_iconst rfl dX12_telling_47 ?_
      refine ts_iadd dX12_telling_48 ?_
      exact td_iret rfl dX12_telling_49
    · refine ts_aload_n (i := 0) rfl rfl dX12_telling_50 ?_
      refine ts_iload_n (i := 1) rfl rfl dX12_telling_51 ?_
      refine ts_iload_n (i := 2) rfl rfl dX12_telling_52 ?_
      refine tq_callV (y2 := mX12_plainTells) [tv_I a1, tv_I a2] [] 1 (st' := fun r10 => [tv_I r10]) tw_X12_plainTells tx_X12_plainTells tw_c12 ga_m_1 tl_X12_428 rfl rfl rfl rfl (fun _ => rfl) dX12_telling_53 (S_X12_plainTells l hE _ a1 a2 D) (fun r10 D11 => ?_)
      exact td_iret rfl dX12_telling_56
def F_X12_act (a1 : Int) (a2 : Int) (a3 : Int) (D : td_D) : Option (Int × td_D) :=
  td_l (td_upd D 1 52 0) fun D1 =>
  td_b (F_X12_isBody a1 D1) fun r2 D3 =>
  if r2 = 0 then
    some (0, D3)
  else
    td_b (F_X12_in a2 0 3 D3) fun r4 D5 =>
    if r4 = 0 then
      some (0, D5)
    else
      if a2 = 0 then
        td_b (F_X12_keeping a1 a3 D5) fun r6 D7 =>
        some (r6, D7)
      else
        if a2 = 1 then
          td_b (F_X12_stinging a1 a3 D5) fun r8 D9 =>
          some (r8, D9)
        else
          if a2 = 2 then
            td_b (F_X12_growing a1 a3 D5) fun r10 D11 =>
            some (r10, D11)
          else
            td_b (F_X12_telling a1 a3 D5) fun r12 D13 =>
            some (r12, D13)
set_option maxHeartbeats 4000000 in
set_option maxRecDepth 20000 in
theorem S_X12_act (l : Launch) {E : tv_E} (hE : tv_hE E) (d : Nat) (a1 : Int) (a2 : Int) (a3 : Int) (D : td_D) : td_msim l E (d + 9) mX12_act g_m [tv_R 1, tv_I a1, tv_I a2, tv_I a3] D (F_X12_act a1 a2 a3 D) := by
  refine td_meetL (ls := [tv_R 1, tv_I a1, tv_I a2, tv_I a3]) rfl (Nat.le_of_ble_eq_true rfl) rfl ?_
  unfold F_X12_act
  refine ts_aload_n (i := 0) rfl rfl dX12_act_0 ?_
  refine ts_iconst rfl dX12_act_1 ?_
  refine td_putI tf_X12_392 (by intro h; cases h) rfl ga_m_1 rfl dX12_act_2 ?_
  refine td_let (fun D1 => ?_)
  refine ts_aload_n (i := 0) rfl rfl dX12_act_5 ?_
  refine ts_iload_n (i := 1) rfl rfl dX12_act_6 ?_
  refine tq_callV (y2 := mX12_isBody) [tv_I a1] [] 1 (st' := fun r2 => [tv_I r2]) tw_X12_isBody tx_X12_isBody tw_c12 ga_m_1 tl_X12_431 rfl rfl rfl rfl (fun _ => rfl) dX12_act_7 (S_X12_isBody l hE _ a1 D1) (fun r2 D3 => ?_)
  refine td_if_eq (tgt := 22) rfl dX12_act_10 ?_ ?_
  · refine ts_iconst rfl dX12_act_22 ?_
    exact td_iret rfl dX12_act_23
  · refine ts_iload_n (i := 2) rfl rfl dX12_act_13 ?_
    refine ts_iconst rfl dX12_act_14 ?_
    refine ts_iconst rfl dX12_act_15 ?_
    refine tq_callS (y2 := mX12_in) [tv_I a2, tv_I 0, tv_I 3] [] (st' := fun r4 => [tv_I r4]) tw_X12_in tx_X12_in tl_X12_142 rfl rfl rfl rfl (fun _ => rfl) dX12_act_16 (S_X12_in l hE _ a2 0 3 D3) (fun r4 D5 => ?_)
    refine td_if_ne (tgt := 24) rfl dX12_act_19 ?_ ?_
    · refine ts_iconst rfl dX12_act_22 ?_
      exact td_iret rfl dX12_act_23
    · refine ts_iload_n (i := 2) rfl rfl dX12_act_24 ?_
      refine td_if_ne (tgt := 37) rfl dX12_act_25 ?_ ?_
      · refine ts_aload_n (i := 0) rfl rfl dX12_act_28 ?_
        refine ts_iload_n (i := 1) rfl rfl dX12_act_29 ?_
        refine ts_iload_n (i := 3) rfl rfl dX12_act_30 ?_
        refine tq_callV (y2 := mX12_keeping) [tv_I a1, tv_I a3] [] 1 (st' := fun r6 => [tv_I r6]) tw_X12_keeping tx_X12_keeping tw_c12 ga_m_1 tl_X12_407 rfl rfl rfl rfl (fun _ => rfl) dX12_act_31 (S_X12_keeping l hE _ a1 a3 D5) (fun r6 D7 => ?_)
        refine ts_goto (tgt := 71) rfl dX12_act_34 ?_
        exact td_iret rfl dX12_act_71
      · refine ts_iload_n (i := 2) rfl rfl dX12_act_37 ?_
        refine ts_iconst rfl dX12_act_38 ?_
        refine td_icmp_ne (tgt := 51) rfl dX12_act_39 ?_ ?_
        · refine ts_aload_n (i := 0) rfl rfl dX12_act_42 ?_
          refine ts_iload_n (i := 1) rfl rfl dX12_act_43 ?_
          refine ts_iload_n (i := 3) rfl rfl dX12_act_44 ?_
          refine tq_callV (y2 := mX12_stinging) [tv_I a1, tv_I a3] [] 1 (st' := fun r8 => [tv_I r8]) tw_X12_stinging tx_X12_stinging tw_c12 ga_m_1 tl_X12_425 rfl rfl rfl rfl (fun _ => rfl) dX12_act_45 (S_X12_stinging l hE _ a1 a3 D5) (fun r8 D9 => ?_)
          refine ts_goto (tgt := 71) rfl dX12_act_48 ?_
          exact td_iret rfl dX12_act_71
        · refine ts_iload_n (i := 2) rfl rfl dX12_act_51 ?_
          refine ts_iconst rfl dX12_act_52 ?_
          refine td_icmp_ne (tgt := 65) rfl dX12_act_53 ?_ ?_
          · refine ts_aload_n (i := 0) rfl rfl dX12_act_56 ?_
            refine ts_iload_n (i := 1) rfl rfl dX12_act_57 ?_
            refine ts_iload_n (i := 3) rfl rfl dX12_act_58 ?_
            refine tq_callV (y2 := mX12_growing) [tv_I a1, tv_I a3] [] 1 (st' := fun r10 => [tv_I r10]) tw_X12_growing tx_X12_growing tw_c12 ga_m_1 tl_X12_416 rfl rfl rfl rfl (fun _ => rfl) dX12_act_59 (S_X12_growing l hE _ a1 a3 D5) (fun r10 D11 => ?_)
            refine ts_goto (tgt := 71) rfl dX12_act_62 ?_
            exact td_iret rfl dX12_act_71
          · refine ts_aload_n (i := 0) rfl rfl dX12_act_65 ?_
            refine ts_iload_n (i := 1) rfl rfl dX12_act_66 ?_
            refine ts_iload_n (i := 3) rfl rfl dX12_act_67 ?_
            refine tq_callV (y2 := mX12_telling) [tv_I a1, tv_I a3] [] 1 (st' := fun r12 => [tv_I r12]) tw_X12_telling tx_X12_telling tw_c12 ga_m_1 tl_X12_434 rfl rfl rfl rfl (fun _ => rfl) dX12_act_68 (S_X12_telling l hE _ a1 a3 D5) (fun r12 D13 => ?_)
            exact td_iret rfl dX12_act_71
def F_X12_count (a1 : Int) (D : td_D) : Option (Int × td_D) :=
  if a1 = 0 then
    some (D 1 1, D)
  else if a1 = 1 then
    some (D 1 3, D)
  else if a1 = 2 then
    some (D 1 6, D)
  else if a1 = 3 then
    some (D 1 18, D)
  else if a1 = 4 then
    some (D 1 11, D)
  else if a1 = 5 then
    some (D 1 50, D)
  else if a1 = 6 then
    some (D 1 52, D)
  else
    some ((-1), D)
set_option maxHeartbeats 4000000 in
set_option maxRecDepth 20000 in
theorem S_X12_count (l : Launch) {E : tv_E} (hE : tv_hE E) (d : Nat) (a1 : Int) (D : td_D) : td_msim l E (d + 0) mX12_count g_m [tv_R 1, tv_I a1] D (F_X12_count a1 D) := by
  refine td_meetL (ls := [tv_R 1, tv_I a1]) rfl (Nat.le_of_ble_eq_true rfl) rfl ?_
  unfold F_X12_count
  refine ts_iload_n (i := 1) rfl rfl dX12_count_0 ?_
  refine td_ite (fun h1 => ?_) (fun h1 => ?_)
  · refine ts_tabIn (i := 0) (tgt := 44) (by omega) (by omega) rfl rfl dX12_count_1 ?_
    refine ts_aload_n (i := 0) rfl rfl dX12_count_44 ?_
    refine td_getI tl_X12_139 rfl ga_m_1 rfl dX12_count_45 ?_
    exact td_iret rfl dX12_count_48
  refine td_ite (fun h2 => ?_) (fun h2 => ?_)
  · refine ts_tabIn (i := 1) (tgt := 49) (by omega) (by omega) rfl rfl dX12_count_1 ?_
    refine ts_aload_n (i := 0) rfl rfl dX12_count_49 ?_
    refine td_getI tl_X12_146 rfl ga_m_1 rfl dX12_count_50 ?_
    exact td_iret rfl dX12_count_53
  refine td_ite (fun h3 => ?_) (fun h3 => ?_)
  · refine ts_tabIn (i := 2) (tgt := 54) (by omega) (by omega) rfl rfl dX12_count_1 ?_
    refine ts_aload_n (i := 0) rfl rfl dX12_count_54 ?_
    refine td_getI tl_X12_149 rfl ga_m_1 rfl dX12_count_55 ?_
    exact td_iret rfl dX12_count_58
  refine td_ite (fun h4 => ?_) (fun h4 => ?_)
  · refine ts_tabIn (i := 3) (tgt := 59) (by omega) (by omega) rfl rfl dX12_count_1 ?_
    refine ts_aload_n (i := 0) rfl rfl dX12_count_59 ?_
    refine td_getI tl_X12_206 rfl ga_m_1 rfl dX12_count_60 ?_
    exact td_iret rfl dX12_count_63
  refine td_ite (fun h5 => ?_) (fun h5 => ?_)
  · refine ts_tabIn (i := 4) (tgt := 64) (by omega) (by omega) rfl rfl dX12_count_1 ?_
    refine ts_aload_n (i := 0) rfl rfl dX12_count_64 ?_
    refine td_getI tl_X12_178 rfl ga_m_1 rfl dX12_count_65 ?_
    exact td_iret rfl dX12_count_68
  refine td_ite (fun h6 => ?_) (fun h6 => ?_)
  · refine ts_tabIn (i := 5) (tgt := 69) (by omega) (by omega) rfl rfl dX12_count_1 ?_
    refine ts_aload_n (i := 0) rfl rfl dX12_count_69 ?_
    refine td_getI tl_X12_389 rfl ga_m_1 rfl dX12_count_70 ?_
    exact td_iret rfl dX12_count_73
  refine td_ite (fun h7 => ?_) (fun h7 => ?_)
  · refine ts_tabIn (i := 6) (tgt := 74) (by omega) (by omega) rfl rfl dX12_count_1 ?_
    refine ts_aload_n (i := 0) rfl rfl dX12_count_74 ?_
    refine td_getI tl_X12_392 rfl ga_m_1 rfl dX12_count_75 ?_
    exact td_iret rfl dX12_count_78
  refine ts_tabOut (tgt := 79) (by omega) rfl dX12_count_1 ?_
  refine ts_iconst rfl dX12_count_79 ?_
  exact td_iret rfl dX12_count_80
def F_X12_keep (a1 : Int) (a2 : Int) (D : td_D) : Option (Int × td_D) :=
  td_b (F_X12_isShelf a1 D) fun r1 D2 =>
  if r1 = 0 then
    some ((-1), D2)
  else
    if a2 = (-1) then
      if 0 ≤ a1 ∧ a1 < ((6 : Nat) : Int) then
        td_l (td_upd D2 37 (Int.toNat a1) a2) fun D4 =>
        some (1, D4)
      else none
    else
      td_b (F_X12_isBody a2 D2) fun r5 D6 =>
      if r5 = 0 then
        some ((-1), D6)
      else
        if 0 ≤ a1 ∧ a1 < ((6 : Nat) : Int) then
          td_l (td_upd D6 37 (Int.toNat a1) a2) fun D8 =>
          some (1, D8)
        else none
set_option maxHeartbeats 4000000 in
set_option maxRecDepth 20000 in
theorem S_X12_keep (l : Launch) {E : tv_E} (hE : tv_hE E) (d : Nat) (a1 : Int) (a2 : Int) (D : td_D) : td_msim l E (d + 2) mX12_keep g_m [tv_R 1, tv_I a1, tv_I a2] D (F_X12_keep a1 a2 D) := by
  refine td_meetL (ls := [tv_R 1, tv_I a1, tv_I a2]) rfl (Nat.le_of_ble_eq_true rfl) rfl ?_
  unfold F_X12_keep
  refine ts_iload_n (i := 1) rfl rfl dX12_keep_0 ?_
  refine tq_callS (y2 := mX12_isShelf) [tv_I a1] [] (st' := fun r1 => [tv_I r1]) tw_X12_isShelf tx_X12_isShelf tl_X12_167 rfl rfl rfl rfl (fun _ => rfl) dX12_keep_1 (S_X12_isShelf l hE _ a1 D) (fun r1 D2 => ?_)
  refine td_if_eq (tgt := 20) rfl dX12_keep_4 ?_ ?_
  · refine ts_iconst rfl dX12_keep_20 ?_
    exact td_iret rfl dX12_keep_21
  · refine ts_iload_n (i := 2) rfl rfl dX12_keep_7 ?_
    refine ts_iconst rfl dX12_keep_8 ?_
    refine td_icmp_eq (tgt := 22) rfl dX12_keep_9 ?_ ?_
    · refine ts_aload_n (i := 0) rfl rfl dX12_keep_22 ?_
      refine td_getR (q := 37) tl_X12_118 rfl ga_m_1 rfl dX12_keep_23 ?_
      refine ts_iload_n (i := 1) rfl rfl dX12_keep_26 ?_
      refine ts_iload_n (i := 2) rfl rfl dX12_keep_27 ?_
      refine td_guard (fun h3 => ?_)
      refine td_iastK ga_m_37 (gn_m_37 _) h3 dX12_keep_28 ?_
      refine td_let (fun D4 => ?_)
      refine ts_iconst rfl dX12_keep_29 ?_
      exact td_iret rfl dX12_keep_30
    · refine ts_aload_n (i := 0) rfl rfl dX12_keep_12 ?_
      refine ts_iload_n (i := 2) rfl rfl dX12_keep_13 ?_
      refine tq_callV (y2 := mX12_isBody) [tv_I a2] [] 1 (st' := fun r5 => [tv_I r5]) tw_X12_isBody tx_X12_isBody tw_c12 ga_m_1 tl_X12_431 rfl rfl rfl rfl (fun _ => rfl) dX12_keep_14 (S_X12_isBody l hE _ a2 D2) (fun r5 D6 => ?_)
      refine td_if_ne (tgt := 22) rfl dX12_keep_17 ?_ ?_
      · refine ts_iconst rfl dX12_keep_20 ?_
        exact td_iret rfl dX12_keep_21
      · refine ts_aload_n (i := 0) rfl rfl dX12_keep_22 ?_
        refine td_getR (q := 37) tl_X12_118 rfl ga_m_1 rfl dX12_keep_23 ?_
        refine ts_iload_n (i := 1) rfl rfl dX12_keep_26 ?_
        refine ts_iload_n (i := 2) rfl rfl dX12_keep_27 ?_
        refine td_guard (fun h7 => ?_)
        refine td_iastK ga_m_37 (gn_m_37 _) h7 dX12_keep_28 ?_
        refine td_let (fun D8 => ?_)
        refine ts_iconst rfl dX12_keep_29 ?_
        exact td_iret rfl dX12_keep_30
def F_X12_row_54 : Nat → Int → Int → td_D → Option (Int × td_D)
  | 0, _, _, _ => none
  | n + 1, v1, v4, D =>
    if tv_w ((tv_w (60 * v1)) + 60) ≤ v4 then
      some (1, D)
    else
      if 0 ≤ v4 ∧ v4 < ((360 : Nat) : Int) then
        td_l (td_upd D 39 (Int.toNat v4) 0) fun D2 =>
        F_X12_row_54 n v1 (tv_w (v4 + 1)) D2
      else none
set_option maxHeartbeats 4000000 in
set_option maxRecDepth 20000 in
theorem S_X12_row_54 {l : Launch} {E : tv_E} (hE : tv_hE E) (d : Nat) : ∀ (n : Nat) (v1 : Int) (v4 : Int) (D : td_D), td_sim l E (d + 2) mX12_row g_m 54 [tv_R 1, tv_I v1, tv_U, tv_U, tv_I v4] [] D (F_X12_row_54 n v1 v4 D) := by
  intro n
  induction n with
  | zero => intros; exact tv_none
  | succ n ih =>
    intro v1 v4 D
    show td_sim _ _ _ _ _ _ _ _ _ (F_X12_row_54 (n + 1) v1 v4 D)
    unfold F_X12_row_54
    refine ts_iload rfl dX12_row_54 ?_
    refine ts_bipush rfl dX12_row_56 ?_
    refine ts_iload_n (i := 1) rfl rfl dX12_row_58 ?_
    refine ts_imul dX12_row_59 ?_
    refine ts_bipush rfl dX12_row_60 ?_
    refine ts_iadd dX12_row_62 ?_
    refine td_icmp_ge (tgt := 80) rfl dX12_row_63 ?_ ?_
    · refine ts_iconst rfl dX12_row_80 ?_
      exact td_iret rfl dX12_row_81
    · refine ts_aload_n (i := 0) rfl rfl dX12_row_66 ?_
      refine td_getR (q := 39) tl_X12_124 rfl ga_m_1 rfl dX12_row_67 ?_
      refine ts_iload rfl dX12_row_70 ?_
      refine ts_lconst dX12_row_72 ?_
      refine td_guard (fun h1 => ?_)
      refine td_lastK ga_m_39 (gn_m_39 _) h1 dX12_row_73 ?_
      refine td_let (fun D2 => ?_)
      refine tq_iinc [tv_R 1, tv_I v1, tv_U, tv_U, tv_I (tv_w (v4 + 1))] rfl rfl rfl dX12_row_74 ?_
      refine ts_goto (tgt := 54) rfl dX12_row_77 ?_
      exact ih v1 (tv_w (v4 + 1)) D2
def F_X12_row (a1 : Int) (a2 : Int) (a3 : Int) (D : td_D) : Option (Int × td_D) :=
  td_b (F_X12_isShelf a1 D) fun r3 D4 =>
  if r3 = 0 then
    some ((-1), D4)
  else
    td_b (F_X12_in a2 0 4 D4) fun r5 D6 =>
    if r5 = 0 then
      some ((-1), D6)
    else
      if a3 ≤ 60 then
        if 0 ≤ a3 then
          if 0 ≤ a1 ∧ a1 < ((6 : Nat) : Int) then
            td_l (td_upd D6 37 (Int.toNat a1) (tv_w (((-2)) - a2))) fun D8 =>
            td_l (td_upd D8 38 (Int.toNat a1) a3) fun D9 =>
            F_X12_row_54 tf_N a1 (tv_w (60 * a1)) D9
          else none
        else
          some ((-14), D6)
      else
        some ((-1), D6)
set_option maxHeartbeats 4000000 in
set_option maxRecDepth 20000 in
theorem S_X12_row (l : Launch) {E : tv_E} (hE : tv_hE E) (d : Nat) (a1 : Int) (a2 : Int) (a3 : Int) (D : td_D) : td_msim l E (d + 2) mX12_row g_m [tv_R 1, tv_I a1, tv_I a2, tv_I a3] D (F_X12_row a1 a2 a3 D) := by
  refine td_meetL (ls := [tv_R 1, tv_I a1, tv_I a2, tv_I a3, tv_U]) rfl (Nat.le_of_ble_eq_true rfl) rfl ?_
  unfold F_X12_row
  refine ts_iload_n (i := 1) rfl rfl dX12_row_0 ?_
  refine tq_callS (y2 := mX12_isShelf) [tv_I a1] [] (st' := fun r3 => [tv_I r3]) tw_X12_isShelf tx_X12_isShelf tl_X12_167 rfl rfl rfl rfl (fun _ => rfl) dX12_row_1 (S_X12_isShelf l hE _ a1 D) (fun r3 D4 => ?_)
  refine td_if_eq (tgt := 22) rfl dX12_row_4 ?_ ?_
  · refine ts_iconst rfl dX12_row_22 ?_
    exact td_iret rfl dX12_row_23
  · refine ts_iload_n (i := 2) rfl rfl dX12_row_7 ?_
    refine ts_iconst rfl dX12_row_8 ?_
    refine ts_iconst rfl dX12_row_9 ?_
    refine tq_callS (y2 := mX12_in) [tv_I a2, tv_I 0, tv_I 4] [] (st' := fun r5 => [tv_I r5]) tw_X12_in tx_X12_in tl_X12_142 rfl rfl rfl rfl (fun _ => rfl) dX12_row_10 (S_X12_in l hE _ a2 0 4 D4) (fun r5 D6 => ?_)
    refine td_if_eq (tgt := 22) rfl dX12_row_13 ?_ ?_
    · refine ts_iconst rfl dX12_row_22 ?_
      exact td_iret rfl dX12_row_23
    · refine ts_iload_n (i := 3) rfl rfl dX12_row_16 ?_
      refine ts_bipush rfl dX12_row_17 ?_
      refine td_icmp_le (tgt := 24) rfl dX12_row_19 ?_ ?_
      · refine ts_iload_n (i := 3) rfl rfl dX12_row_24 ?_
        refine td_if_ge (tgt := 31) rfl dX12_row_25 ?_ ?_
        · refine ts_aload_n (i := 0) rfl rfl dX12_row_31 ?_
          refine td_getR (q := 37) tl_X12_118 rfl ga_m_1 rfl dX12_row_32 ?_
          refine ts_iload_n (i := 1) rfl rfl dX12_row_35 ?_
          refine ts_bipush rfl dX12_row_36 ?_
          refine ts_iload_n (i := 2) rfl rfl dX12_row_38 ?_
          refine ts_isub dX12_row_39 ?_
          refine td_guard (fun h7 => ?_)
          refine td_iastK ga_m_37 (gn_m_37 _) h7 dX12_row_40 ?_
          refine td_let (fun D8 => ?_)
          refine ts_aload_n (i := 0) rfl rfl dX12_row_41 ?_
          refine td_getR (q := 38) tl_X12_121 rfl ga_m_1 rfl dX12_row_42 ?_
          refine ts_iload_n (i := 1) rfl rfl dX12_row_45 ?_
          refine ts_iload_n (i := 3) rfl rfl dX12_row_46 ?_
          refine td_iastK ga_m_38 (gn_m_38 _) h7 dX12_row_47 ?_
          refine td_let (fun D9 => ?_)
          refine ts_bipush rfl dX12_row_48 ?_
          refine ts_iload_n (i := 1) rfl rfl dX12_row_50 ?_
          refine ts_imul dX12_row_51 ?_
          refine tq_istore [tv_R 1, tv_I a1, tv_I a2, tv_I a3, tv_I (tv_w (60 * a1))] (Nat.le_of_ble_eq_true rfl) rfl rfl dX12_row_52 ?_
          refine tv_weak (ls' := [tv_R 1, tv_I a1, tv_U, tv_U, tv_I (tv_w (60 * a1))]) ⟨Or.inr rfl, Or.inr rfl, Or.inl rfl, Or.inl rfl, Or.inr rfl, trivial⟩ ?_
          exact S_X12_row_54 hE d tf_N a1 (tv_w (60 * a1)) D9
        · refine ts_bipush rfl dX12_row_28 ?_
          exact td_iret rfl dX12_row_30
      · refine ts_iconst rfl dX12_row_22 ?_
        exact td_iret rfl dX12_row_23
def F_X12_whyNoPlace (a1 : Int) (a2 : Int) (D : td_D) : Option (Int × td_D) :=
  td_b (F_X12_isShelf a1 D) fun r1 D2 =>
  if r1 = 0 then
    some ((-1), D2)
  else
    if 0 ≤ a1 ∧ a1 < ((6 : Nat) : Int) then
      if D2 37 (Int.toNat a1) = (-1) then
        some ((-11), D2)
      else
        if D2 37 (Int.toNat a1) < 0 then
          td_b (F_X12_in a2 0 (tv_w ((D2 38 (Int.toNat a1)) - 1)) D2) fun r4 D5 =>
          if r4 = 0 then
            some ((-13), D5)
          else
            some (0, D5)
        else
          some ((-12), D2)
    else none
set_option maxHeartbeats 4000000 in
set_option maxRecDepth 20000 in
theorem S_X12_whyNoPlace (l : Launch) {E : tv_E} (hE : tv_hE E) (d : Nat) (a1 : Int) (a2 : Int) (D : td_D) : td_msim l E (d + 2) mX12_whyNoPlace g_m [tv_R 1, tv_I a1, tv_I a2] D (F_X12_whyNoPlace a1 a2 D) := by
  refine td_meetL (ls := [tv_R 1, tv_I a1, tv_I a2]) rfl (Nat.le_of_ble_eq_true rfl) rfl ?_
  unfold F_X12_whyNoPlace
  refine ts_iload_n (i := 1) rfl rfl dX12_whyNoPlace_0 ?_
  refine tq_callS (y2 := mX12_isShelf) [tv_I a1] [] (st' := fun r1 => [tv_I r1]) tw_X12_isShelf tx_X12_isShelf tl_X12_167 rfl rfl rfl rfl (fun _ => rfl) dX12_whyNoPlace_1 (S_X12_isShelf l hE _ a1 D) (fun r1 D2 => ?_)
  refine td_if_ne (tgt := 9) rfl dX12_whyNoPlace_4 ?_ ?_
  · refine ts_iconst rfl dX12_whyNoPlace_7 ?_
    exact td_iret rfl dX12_whyNoPlace_8
  · refine ts_aload_n (i := 0) rfl rfl dX12_whyNoPlace_9 ?_
    refine td_getR (q := 37) tl_X12_118 rfl ga_m_1 rfl dX12_whyNoPlace_10 ?_
    refine ts_iload_n (i := 1) rfl rfl dX12_whyNoPlace_13 ?_
    refine td_guard (fun h3 => ?_)
    refine td_ialdK ga_m_37 (gn_m_37 _) h3 dX12_whyNoPlace_14 ?_
    refine ts_iconst rfl dX12_whyNoPlace_15 ?_
    refine td_icmp_ne (tgt := 22) rfl dX12_whyNoPlace_16 ?_ ?_
    · refine ts_bipush rfl dX12_whyNoPlace_19 ?_
      exact td_iret rfl dX12_whyNoPlace_21
    · refine ts_aload_n (i := 0) rfl rfl dX12_whyNoPlace_22 ?_
      refine td_getR (q := 37) tl_X12_118 rfl ga_m_1 rfl dX12_whyNoPlace_23 ?_
      refine ts_iload_n (i := 1) rfl rfl dX12_whyNoPlace_26 ?_
      refine td_ialdK ga_m_37 (gn_m_37 _) h3 dX12_whyNoPlace_27 ?_
      refine td_if_lt (tgt := 34) rfl dX12_whyNoPlace_28 ?_ ?_
      · refine ts_iload_n (i := 2) rfl rfl dX12_whyNoPlace_34 ?_
        refine ts_iconst rfl dX12_whyNoPlace_35 ?_
        refine ts_aload_n (i := 0) rfl rfl dX12_whyNoPlace_36 ?_
        refine td_getR (q := 38) tl_X12_121 rfl ga_m_1 rfl dX12_whyNoPlace_37 ?_
        refine ts_iload_n (i := 1) rfl rfl dX12_whyNoPlace_40 ?_
        refine td_ialdK ga_m_38 (gn_m_38 _) h3 dX12_whyNoPlace_41 ?_
        refine ts_iconst rfl dX12_whyNoPlace_42 ?_
        refine ts_isub dX12_whyNoPlace_43 ?_
        refine tq_callS (y2 := mX12_in) [tv_I a2, tv_I 0, tv_I (tv_w ((D2 38 (Int.toNat a1)) - 1))] [] (st' := fun r4 => [tv_I r4]) tw_X12_in tx_X12_in tl_X12_142 rfl rfl rfl rfl (fun _ => rfl) dX12_whyNoPlace_44 (S_X12_in l hE _ a2 0 (tv_w ((D2 38 (Int.toNat a1)) - 1)) D2) (fun r4 D5 => ?_)
        refine td_if_eq (tgt := 54) rfl dX12_whyNoPlace_47 ?_ ?_
        · refine ts_bipush rfl dX12_whyNoPlace_54 ?_
          exact td_iret rfl dX12_whyNoPlace_56
        · refine ts_iconst rfl dX12_whyNoPlace_50 ?_
          refine ts_goto (tgt := 56) rfl dX12_whyNoPlace_51 ?_
          exact td_iret rfl dX12_whyNoPlace_56
      · refine ts_bipush rfl dX12_whyNoPlace_31 ?_
        exact td_iret rfl dX12_whyNoPlace_33
def F_X12_put_95 (s1 : Int) (s2 : Int) (D : td_D) : Option (Int × td_D) :=
  if 0 ≤ s1 ∧ s1 < ((360 : Nat) : Int) then
    td_l (td_upd D 39 (Int.toNat s1) s2) fun D2 =>
    some (1, D2)
  else none
set_option maxHeartbeats 4000000 in
set_option maxRecDepth 20000 in
theorem S_X12_put_95 {l : Launch} {E : tv_E} (hE : tv_hE E) (d : Nat) (s1 : Int) (s2 : Int) (D : td_D) : td_sim l E (d + 3) mX12_put g_m 95 [tv_U, tv_U, tv_U, tv_U, tv_U, tv_U, tv_U] [tv_J s2, tv_I s1, tv_R 39] D (F_X12_put_95 s1 s2 D) := by
  unfold F_X12_put_95
  refine td_guard (fun h1 => ?_)
  refine td_lastK ga_m_39 (gn_m_39 _) h1 dX12_put_95 ?_
  refine td_let (fun D2 => ?_)
  refine ts_iconst rfl dX12_put_96 ?_
  exact td_iret rfl dX12_put_97
def F_X12_put (a1 : Int) (a2 : Int) (a3 : Int) (D : td_D) : Option (Int × td_D) :=
  td_b (F_X12_whyNoPlace a1 a2 D) fun r3 D4 =>
  if 0 ≤ r3 then
    if 0 ≤ a1 ∧ a1 < ((6 : Nat) : Int) then
      if tv_w (((-2)) - (D4 37 (Int.toNat a1))) = 0 then
        F_X12_put_95 (tv_w ((tv_w (60 * a1)) + a2)) (tv_i2b (tv_w a3)) D4
      else
        if tv_w (((-2)) - (D4 37 (Int.toNat a1))) = 1 then
          F_X12_put_95 (tv_w ((tv_w (60 * a1)) + a2)) (tv_i2s (tv_w a3)) D4
        else
          if tv_w (((-2)) - (D4 37 (Int.toNat a1))) = 2 then
            F_X12_put_95 (tv_w ((tv_w (60 * a1)) + a2)) (tv_w a3) D4
          else
            if tv_w (((-2)) - (D4 37 (Int.toNat a1))) = 3 then
              F_X12_put_95 (tv_w ((tv_w (60 * a1)) + a2)) a3 D4
            else
              if tv_lcmp a3 0 = 0 then
                F_X12_put_95 (tv_w ((tv_w (60 * a1)) + a2)) 0 D4
              else
                F_X12_put_95 (tv_w ((tv_w (60 * a1)) + a2)) 1 D4
    else none
  else
    some (r3, D4)
set_option maxHeartbeats 4000000 in
set_option maxRecDepth 20000 in
theorem S_X12_put (l : Launch) {E : tv_E} (hE : tv_hE E) (d : Nat) (a1 : Int) (a2 : Int) (a3 : Int) (D : td_D) : td_msim l E (d + 3) mX12_put g_m [tv_R 1, tv_I a1, tv_I a2, tv_J a3] D (F_X12_put a1 a2 a3 D) := by
  refine td_meetL (ls := [tv_R 1, tv_I a1, tv_I a2, tv_J a3, tv_U, tv_U, tv_U]) rfl (Nat.le_of_ble_eq_true rfl) rfl ?_
  unfold F_X12_put
  refine ts_aload_n (i := 0) rfl rfl dX12_put_0 ?_
  refine ts_iload_n (i := 1) rfl rfl dX12_put_1 ?_
  refine ts_iload_n (i := 2) rfl rfl dX12_put_2 ?_
  refine tq_callV (y2 := mX12_whyNoPlace) [tv_I a1, tv_I a2] [] 1 (st' := fun r3 => [tv_I r3]) tw_X12_whyNoPlace tx_X12_whyNoPlace tw_c12 ga_m_1 tl_X12_437 rfl rfl rfl rfl (fun _ => rfl) dX12_put_3 (S_X12_whyNoPlace l hE _ a1 a2 D) (fun r3 D4 => ?_)
  refine tq_istore [tv_R 1, tv_I a1, tv_I a2, tv_J a3, tv_U, tv_I r3, tv_U] (Nat.le_of_ble_eq_true rfl) rfl rfl dX12_put_6 ?_
  refine ts_iload rfl dX12_put_8 ?_
  refine td_if_ge (tgt := 16) rfl dX12_put_10 ?_ ?_
  · refine ts_bipush rfl dX12_put_16 ?_
    refine ts_aload_n (i := 0) rfl rfl dX12_put_18 ?_
    refine td_getR (q := 37) tl_X12_118 rfl ga_m_1 rfl dX12_put_19 ?_
    refine ts_iload_n (i := 1) rfl rfl dX12_put_22 ?_
    refine td_guard (fun h5 => ?_)
    refine td_ialdK ga_m_37 (gn_m_37 _) h5 dX12_put_23 ?_
    refine ts_isub dX12_put_24 ?_
    refine tq_istore [tv_R 1, tv_I a1, tv_I a2, tv_J a3, tv_U, tv_I r3, tv_I (tv_w (((-2)) - (D4 37 (Int.toNat a1))))] (Nat.le_of_ble_eq_true rfl) rfl rfl dX12_put_25 ?_
    refine ts_aload_n (i := 0) rfl rfl dX12_put_27 ?_
    refine td_getR (q := 39) tl_X12_124 rfl ga_m_1 rfl dX12_put_28 ?_
    refine ts_bipush rfl dX12_put_31 ?_
    refine ts_iload_n (i := 1) rfl rfl dX12_put_33 ?_
    refine ts_imul dX12_put_34 ?_
    refine ts_iload_n (i := 2) rfl rfl dX12_put_35 ?_
    refine ts_iadd dX12_put_36 ?_
    refine ts_iload rfl dX12_put_37 ?_
    refine td_if_ne (tgt := 49) rfl dX12_put_39 ?_ ?_
    · refine ts_lload_n (i := 3) rfl rfl dX12_put_42 ?_
      refine ts_l2i dX12_put_43 ?_
      refine ts_i2b dX12_put_44 ?_
      refine ts_i2l dX12_put_45 ?_
      refine ts_goto (tgt := 95) rfl dX12_put_46 ?_
      refine tv_weak (ls' := [tv_U, tv_U, tv_U, tv_U, tv_U, tv_U, tv_U]) ⟨Or.inl rfl, Or.inl rfl, Or.inl rfl, Or.inl rfl, Or.inl rfl, Or.inl rfl, Or.inl rfl, trivial⟩ ?_
      exact S_X12_put_95 hE d (tv_w ((tv_w (60 * a1)) + a2)) (tv_i2b (tv_w a3)) D4
    · refine ts_iload rfl dX12_put_49 ?_
      refine ts_iconst rfl dX12_put_51 ?_
      refine td_icmp_ne (tgt := 62) rfl dX12_put_52 ?_ ?_
      · refine ts_lload_n (i := 3) rfl rfl dX12_put_55 ?_
        refine ts_l2i dX12_put_56 ?_
        refine ts_i2s dX12_put_57 ?_
        refine ts_i2l dX12_put_58 ?_
        refine ts_goto (tgt := 95) rfl dX12_put_59 ?_
        refine tv_weak (ls' := [tv_U, tv_U, tv_U, tv_U, tv_U, tv_U, tv_U]) ⟨Or.inl rfl, Or.inl rfl, Or.inl rfl, Or.inl rfl, Or.inl rfl, Or.inl rfl, Or.inl rfl, trivial⟩ ?_
        exact S_X12_put_95 hE d (tv_w ((tv_w (60 * a1)) + a2)) (tv_i2s (tv_w a3)) D4
      · refine ts_iload rfl dX12_put_62 ?_
        refine ts_iconst rfl dX12_put_64 ?_
        refine td_icmp_ne (tgt := 74) rfl dX12_put_65 ?_ ?_
        · refine ts_lload_n (i := 3) rfl rfl dX12_put_68 ?_
          refine ts_l2i dX12_put_69 ?_
          refine ts_i2l dX12_put_70 ?_
          refine ts_goto (tgt := 95) rfl dX12_put_71 ?_
          refine tv_weak (ls' := [tv_U, tv_U, tv_U, tv_U, tv_U, tv_U, tv_U]) ⟨Or.inl rfl, Or.inl rfl, Or.inl rfl, Or.inl rfl, Or.inl rfl, Or.inl rfl, Or.inl rfl, trivial⟩ ?_
          exact S_X12_put_95 hE d (tv_w ((tv_w (60 * a1)) + a2)) (tv_w a3) D4
        · refine ts_iload rfl dX12_put_74 ?_
          refine ts_iconst rfl dX12_put_76 ?_
          refine td_icmp_ne (tgt := 84) rfl dX12_put_77 ?_ ?_
          · refine ts_lload_n (i := 3) rfl rfl dX12_put_80 ?_
            refine ts_goto (tgt := 95) rfl dX12_put_81 ?_
            refine tv_weak (ls' := [tv_U, tv_U, tv_U, tv_U, tv_U, tv_U, tv_U]) ⟨Or.inl rfl, Or.inl rfl, Or.inl rfl, Or.inl rfl, Or.inl rfl, Or.inl rfl, Or.inl rfl, trivial⟩ ?_
            exact S_X12_put_95 hE d (tv_w ((tv_w (60 * a1)) + a2)) a3 D4
          · refine ts_lload_n (i := 3) rfl rfl dX12_put_84 ?_
            refine ts_lconst dX12_put_85 ?_
            refine ts_lcmp dX12_put_86 ?_
            refine td_if_eq (tgt := 94) rfl dX12_put_87 ?_ ?_
            · refine ts_lconst dX12_put_94 ?_
              refine tv_weak (ls' := [tv_U, tv_U, tv_U, tv_U, tv_U, tv_U, tv_U]) ⟨Or.inl rfl, Or.inl rfl, Or.inl rfl, Or.inl rfl, Or.inl rfl, Or.inl rfl, Or.inl rfl, trivial⟩ ?_
              exact S_X12_put_95 hE d (tv_w ((tv_w (60 * a1)) + a2)) 0 D4
            · refine ts_lconst dX12_put_90 ?_
              refine ts_goto (tgt := 95) rfl dX12_put_91 ?_
              refine tv_weak (ls' := [tv_U, tv_U, tv_U, tv_U, tv_U, tv_U, tv_U]) ⟨Or.inl rfl, Or.inl rfl, Or.inl rfl, Or.inl rfl, Or.inl rfl, Or.inl rfl, Or.inl rfl, trivial⟩ ?_
              exact S_X12_put_95 hE d (tv_w ((tv_w (60 * a1)) + a2)) 1 D4
  · refine ts_iload rfl dX12_put_13 ?_
    exact td_iret rfl dX12_put_15
def F_X12_element (a1 : Int) (a2 : Int) (D : td_D) : Option (Int × td_D) :=
  td_b (F_X12_whyNoPlace a1 a2 D) fun r1 D2 =>
  if 0 ≤ r1 then
    if 0 ≤ tv_w ((tv_w (60 * a1)) + a2) ∧ tv_w ((tv_w (60 * a1)) + a2) < ((360 : Nat) : Int) then
      some (D2 39 (Int.toNat (tv_w ((tv_w (60 * a1)) + a2))), D2)
    else none
  else
    some ((-9223372036854775808), D2)
set_option maxHeartbeats 4000000 in
set_option maxRecDepth 20000 in
theorem S_X12_element (l : Launch) {E : tv_E} (hE : tv_hE E) (d : Nat) (a1 : Int) (a2 : Int) (D : td_D) : td_msim l E (d + 3) mX12_element g_m [tv_R 1, tv_I a1, tv_I a2] D (F_X12_element a1 a2 D) := by
  refine td_meetL (ls := [tv_R 1, tv_I a1, tv_I a2]) rfl (Nat.le_of_ble_eq_true rfl) rfl ?_
  unfold F_X12_element
  refine ts_aload_n (i := 0) rfl rfl dX12_element_0 ?_
  refine ts_iload_n (i := 1) rfl rfl dX12_element_1 ?_
  refine ts_iload_n (i := 2) rfl rfl dX12_element_2 ?_
  refine tq_callV (y2 := mX12_whyNoPlace) [tv_I a1, tv_I a2] [] 1 (st' := fun r1 => [tv_I r1]) tw_X12_whyNoPlace tx_X12_whyNoPlace tw_c12 ga_m_1 tl_X12_437 rfl rfl rfl rfl (fun _ => rfl) dX12_element_3 (S_X12_whyNoPlace l hE _ a1 a2 D) (fun r1 D2 => ?_)
  refine td_if_ge (tgt := 15) rfl dX12_element_6 ?_ ?_
  · refine ts_aload_n (i := 0) rfl rfl dX12_element_15 ?_
    refine td_getR (q := 39) tl_X12_124 rfl ga_m_1 rfl dX12_element_16 ?_
    refine ts_bipush rfl dX12_element_19 ?_
    refine ts_iload_n (i := 1) rfl rfl dX12_element_21 ?_
    refine ts_imul dX12_element_22 ?_
    refine ts_iload_n (i := 2) rfl rfl dX12_element_23 ?_
    refine ts_iadd dX12_element_24 ?_
    refine td_guard (fun h3 => ?_)
    refine td_laldK ga_m_39 (gn_m_39 _) h3 dX12_element_25 ?_
    exact td_lret rfl dX12_element_26
  · refine ts_ldc2 (by unfold tv_inl; decide) tl_X12_442 dX12_element_9 ?_
    refine ts_goto (tgt := 26) rfl dX12_element_12 ?_
    exact td_lret rfl dX12_element_26
def F_X12_shift_150 : Nat → Int → Int → Int → Int → td_D → Option (Int × td_D)
  | 0, _, _, _, _, _ => none
  | n + 1, v3, v4, v5, v6, D =>
    if v5 ≤ v6 then
      some (v5, D)
    else
      if 0 ≤ v6 ∧ v6 < ((60 : Nat) : Int) then
        if 0 ≤ tv_w ((tv_w ((tv_w (60 * v3)) + v4)) + v6) ∧ tv_w ((tv_w ((tv_w (60 * v3)) + v4)) + v6) < ((360 : Nat) : Int) then
          td_l (td_upd D 39 (Int.toNat (tv_w ((tv_w ((tv_w (60 * v3)) + v4)) + v6))) (D 40 (Int.toNat v6))) fun D3 =>
          F_X12_shift_150 n v3 v4 v5 (tv_w (v6 + 1)) D3
        else none
      else none
set_option maxHeartbeats 4000000 in
set_option maxRecDepth 20000 in
theorem S_X12_shift_150 {l : Launch} {E : tv_E} (hE : tv_hE E) (d : Nat) : ∀ (n : Nat) (v3 : Int) (v4 : Int) (v5 : Int) (v6 : Int) (D : td_D), td_sim l E (d + 2) mX12_shift g_m 150 [tv_R 1, tv_U, tv_U, tv_I v3, tv_I v4, tv_I v5, tv_I v6] [] D (F_X12_shift_150 n v3 v4 v5 v6 D) := by
  intro n
  induction n with
  | zero => intros; exact tv_none
  | succ n ih =>
    intro v3 v4 v5 v6 D
    show td_sim _ _ _ _ _ _ _ _ _ (F_X12_shift_150 (n + 1) v3 v4 v5 v6 D)
    unfold F_X12_shift_150
    refine ts_iload rfl dX12_shift_150 ?_
    refine ts_iload rfl dX12_shift_152 ?_
    refine td_icmp_ge (tgt := 185) rfl dX12_shift_154 ?_ ?_
    · refine ts_iload rfl dX12_shift_185 ?_
      exact td_iret rfl dX12_shift_187
    · refine ts_aload_n (i := 0) rfl rfl dX12_shift_157 ?_
      refine td_getR (q := 39) tl_X12_124 rfl ga_m_1 rfl dX12_shift_158 ?_
      refine ts_bipush rfl dX12_shift_161 ?_
      refine ts_iload_n (i := 3) rfl rfl dX12_shift_163 ?_
      refine ts_imul dX12_shift_164 ?_
      refine ts_iload rfl dX12_shift_165 ?_
      refine ts_iadd dX12_shift_167 ?_
      refine ts_iload rfl dX12_shift_168 ?_
      refine ts_iadd dX12_shift_170 ?_
      refine ts_aload_n (i := 0) rfl rfl dX12_shift_171 ?_
      refine td_getR (q := 40) tl_X12_128 rfl ga_m_1 rfl dX12_shift_172 ?_
      refine ts_iload rfl dX12_shift_175 ?_
      refine td_guard (fun h1 => ?_)
      refine td_laldK ga_m_40 (gn_m_40 _) h1 dX12_shift_177 ?_
      refine td_guard (fun h2 => ?_)
      refine td_lastK ga_m_39 (gn_m_39 _) h2 dX12_shift_178 ?_
      refine td_let (fun D3 => ?_)
      refine tq_iinc [tv_R 1, tv_U, tv_U, tv_I v3, tv_I v4, tv_I v5, tv_I (tv_w (v6 + 1))] rfl rfl rfl dX12_shift_179 ?_
      refine ts_goto (tgt := 150) rfl dX12_shift_182 ?_
      exact ih v3 v4 v5 (tv_w (v6 + 1)) D3
def F_X12_shift_113 : Nat → Int → Int → Int → Int → Int → Int → td_D → Option (Int × td_D)
  | 0, _, _, _, _, _, _, _ => none
  | n + 1, v1, v2, v3, v4, v5, v6, D =>
    if v5 ≤ v6 then
      F_X12_shift_150 tf_N v3 v4 v5 0 D
    else
      if 0 ≤ tv_w ((tv_w ((tv_w (60 * v1)) + v2)) + v6) ∧ tv_w ((tv_w ((tv_w (60 * v1)) + v2)) + v6) < ((360 : Nat) : Int) then
        if 0 ≤ v6 ∧ v6 < ((60 : Nat) : Int) then
          td_l (td_upd D 40 (Int.toNat v6) (D 39 (Int.toNat (tv_w ((tv_w ((tv_w (60 * v1)) + v2)) + v6))))) fun D6 =>
          F_X12_shift_113 n v1 v2 v3 v4 v5 (tv_w (v6 + 1)) D6
        else none
      else none
set_option maxHeartbeats 4000000 in
set_option maxRecDepth 20000 in
theorem S_X12_shift_113 {l : Launch} {E : tv_E} (hE : tv_hE E) (d : Nat) : ∀ (n : Nat) (v1 : Int) (v2 : Int) (v3 : Int) (v4 : Int) (v5 : Int) (v6 : Int) (D : td_D), td_sim l E (d + 2) mX12_shift g_m 113 [tv_R 1, tv_I v1, tv_I v2, tv_I v3, tv_I v4, tv_I v5, tv_I v6] [] D (F_X12_shift_113 n v1 v2 v3 v4 v5 v6 D) := by
  intro n
  induction n with
  | zero => intros; exact tv_none
  | succ n ih =>
    intro v1 v2 v3 v4 v5 v6 D
    show td_sim _ _ _ _ _ _ _ _ _ (F_X12_shift_113 (n + 1) v1 v2 v3 v4 v5 v6 D)
    unfold F_X12_shift_113
    refine ts_iload rfl dX12_shift_113 ?_
    refine ts_iload rfl dX12_shift_115 ?_
    refine td_icmp_ge (tgt := 147) rfl dX12_shift_117 ?_ ?_
    · refine ts_iconst rfl dX12_shift_147 ?_
      refine tq_istore [tv_R 1, tv_I v1, tv_I v2, tv_I v3, tv_I v4, tv_I v5, tv_I 0] (Nat.le_of_ble_eq_true rfl) rfl rfl dX12_shift_148 ?_
      refine tv_weak (ls' := [tv_R 1, tv_U, tv_U, tv_I v3, tv_I v4, tv_I v5, tv_I 0]) ⟨Or.inr rfl, Or.inl rfl, Or.inl rfl, Or.inr rfl, Or.inr rfl, Or.inr rfl, Or.inr rfl, trivial⟩ ?_
      exact S_X12_shift_150 hE d tf_N v3 v4 v5 0 D
    · refine ts_aload_n (i := 0) rfl rfl dX12_shift_120 ?_
      refine td_getR (q := 40) tl_X12_128 rfl ga_m_1 rfl dX12_shift_121 ?_
      refine ts_iload rfl dX12_shift_124 ?_
      refine ts_aload_n (i := 0) rfl rfl dX12_shift_126 ?_
      refine td_getR (q := 39) tl_X12_124 rfl ga_m_1 rfl dX12_shift_127 ?_
      refine ts_bipush rfl dX12_shift_130 ?_
      refine ts_iload_n (i := 1) rfl rfl dX12_shift_132 ?_
      refine ts_imul dX12_shift_133 ?_
      refine ts_iload_n (i := 2) rfl rfl dX12_shift_134 ?_
      refine ts_iadd dX12_shift_135 ?_
      refine ts_iload rfl dX12_shift_136 ?_
      refine ts_iadd dX12_shift_138 ?_
      refine td_guard (fun h4 => ?_)
      refine td_laldK ga_m_39 (gn_m_39 _) h4 dX12_shift_139 ?_
      refine td_guard (fun h5 => ?_)
      refine td_lastK ga_m_40 (gn_m_40 _) h5 dX12_shift_140 ?_
      refine td_let (fun D6 => ?_)
      refine tq_iinc [tv_R 1, tv_I v1, tv_I v2, tv_I v3, tv_I v4, tv_I v5, tv_I (tv_w (v6 + 1))] rfl rfl rfl dX12_shift_141 ?_
      refine ts_goto (tgt := 113) rfl dX12_shift_144 ?_
      exact ih v1 v2 v3 v4 v5 (tv_w (v6 + 1)) D6
def F_X12_shift (a1 : Int) (a2 : Int) (a3 : Int) (a4 : Int) (a5 : Int) (D : td_D) : Option (Int × td_D) :=
  td_b (F_X12_isShelf a1 D) fun r7 D8 =>
  if r7 = 0 then
    some ((-1), D8)
  else
    td_b (F_X12_isShelf a3 D8) fun r9 D10 =>
    if r9 = 0 then
      some ((-1), D10)
    else
      if 0 ≤ a1 ∧ a1 < ((6 : Nat) : Int) then
        if D10 37 (Int.toNat a1) = (-1) then
          some ((-11), D10)
        else
          if 0 ≤ a3 ∧ a3 < ((6 : Nat) : Int) then
            if D10 37 (Int.toNat a3) = (-1) then
              some ((-11), D10)
            else
              if 0 ≤ D10 37 (Int.toNat a1) then
                some ((-12), D10)
              else
                if D10 37 (Int.toNat a1) = D10 37 (Int.toNat a3) then
                  if a5 < 0 then
                    some ((-13), D10)
                  else
                    if a2 < 0 then
                      some ((-13), D10)
                    else
                      if a4 < 0 then
                        some ((-13), D10)
                      else
                        if tv_w ((D10 38 (Int.toNat a1)) - a5) < a2 then
                          some ((-13), D10)
                        else
                          if a4 ≤ tv_w ((D10 38 (Int.toNat a3)) - a5) then
                            F_X12_shift_113 tf_N a1 a2 a3 a4 a5 0 D10
                          else
                            some ((-13), D10)
                else
                  some ((-12), D10)
          else none
      else none
set_option maxHeartbeats 4000000 in
set_option maxRecDepth 20000 in
theorem S_X12_shift (l : Launch) {E : tv_E} (hE : tv_hE E) (d : Nat) (a1 : Int) (a2 : Int) (a3 : Int) (a4 : Int) (a5 : Int) (D : td_D) : td_msim l E (d + 2) mX12_shift g_m [tv_R 1, tv_I a1, tv_I a2, tv_I a3, tv_I a4, tv_I a5] D (F_X12_shift a1 a2 a3 a4 a5 D) := by
  refine td_meetL (ls := [tv_R 1, tv_I a1, tv_I a2, tv_I a3, tv_I a4, tv_I a5, tv_U]) rfl (Nat.le_of_ble_eq_true rfl) rfl ?_
  unfold F_X12_shift
  refine ts_iload_n (i := 1) rfl rfl dX12_shift_0 ?_
  refine tq_callS (y2 := mX12_isShelf) [tv_I a1] [] (st' := fun r7 => [tv_I r7]) tw_X12_isShelf tx_X12_isShelf tl_X12_167 rfl rfl rfl rfl (fun _ => rfl) dX12_shift_1 (S_X12_isShelf l hE _ a1 D) (fun r7 D8 => ?_)
  refine td_if_eq (tgt := 14) rfl dX12_shift_4 ?_ ?_
  · refine ts_iconst rfl dX12_shift_14 ?_
    exact td_iret rfl dX12_shift_15
  · refine ts_iload_n (i := 3) rfl rfl dX12_shift_7 ?_
    refine tq_callS (y2 := mX12_isShelf) [tv_I a3] [] (st' := fun r9 => [tv_I r9]) tw_X12_isShelf tx_X12_isShelf tl_X12_167 rfl rfl rfl rfl (fun _ => rfl) dX12_shift_8 (S_X12_isShelf l hE _ a3 D8) (fun r9 D10 => ?_)
    refine td_if_ne (tgt := 16) rfl dX12_shift_11 ?_ ?_
    · refine ts_iconst rfl dX12_shift_14 ?_
      exact td_iret rfl dX12_shift_15
    · refine ts_aload_n (i := 0) rfl rfl dX12_shift_16 ?_
      refine td_getR (q := 37) tl_X12_118 rfl ga_m_1 rfl dX12_shift_17 ?_
      refine ts_iload_n (i := 1) rfl rfl dX12_shift_20 ?_
      refine td_guard (fun h11 => ?_)
      refine td_ialdK ga_m_37 (gn_m_37 _) h11 dX12_shift_21 ?_
      refine ts_iconst rfl dX12_shift_22 ?_
      refine td_icmp_eq (tgt := 36) rfl dX12_shift_23 ?_ ?_
      · refine ts_bipush rfl dX12_shift_36 ?_
        exact td_iret rfl dX12_shift_38
      · refine ts_aload_n (i := 0) rfl rfl dX12_shift_26 ?_
        refine td_getR (q := 37) tl_X12_118 rfl ga_m_1 rfl dX12_shift_27 ?_
        refine ts_iload_n (i := 3) rfl rfl dX12_shift_30 ?_
        refine td_guard (fun h12 => ?_)
        refine td_ialdK ga_m_37 (gn_m_37 _) h12 dX12_shift_31 ?_
        refine ts_iconst rfl dX12_shift_32 ?_
        refine td_icmp_ne (tgt := 39) rfl dX12_shift_33 ?_ ?_
        · refine ts_bipush rfl dX12_shift_36 ?_
          exact td_iret rfl dX12_shift_38
        · refine ts_aload_n (i := 0) rfl rfl dX12_shift_39 ?_
          refine td_getR (q := 37) tl_X12_118 rfl ga_m_1 rfl dX12_shift_40 ?_
          refine ts_iload_n (i := 1) rfl rfl dX12_shift_43 ?_
          refine td_ialdK ga_m_37 (gn_m_37 _) h11 dX12_shift_44 ?_
          refine td_if_ge (tgt := 63) rfl dX12_shift_45 ?_ ?_
          · refine ts_bipush rfl dX12_shift_63 ?_
            exact td_iret rfl dX12_shift_65
          · refine ts_aload_n (i := 0) rfl rfl dX12_shift_48 ?_
            refine td_getR (q := 37) tl_X12_118 rfl ga_m_1 rfl dX12_shift_49 ?_
            refine ts_iload_n (i := 1) rfl rfl dX12_shift_52 ?_
            refine td_ialdK ga_m_37 (gn_m_37 _) h11 dX12_shift_53 ?_
            refine ts_aload_n (i := 0) rfl rfl dX12_shift_54 ?_
            refine td_getR (q := 37) tl_X12_118 rfl ga_m_1 rfl dX12_shift_55 ?_
            refine ts_iload_n (i := 3) rfl rfl dX12_shift_58 ?_
            refine td_ialdK ga_m_37 (gn_m_37 _) h12 dX12_shift_59 ?_
            refine td_icmp_eq (tgt := 66) rfl dX12_shift_60 ?_ ?_
            · refine ts_iload rfl dX12_shift_66 ?_
              refine td_if_lt (tgt := 107) rfl dX12_shift_68 ?_ ?_
              · refine ts_bipush rfl dX12_shift_107 ?_
                exact td_iret rfl dX12_shift_109
              · refine ts_iload_n (i := 2) rfl rfl dX12_shift_71 ?_
                refine td_if_lt (tgt := 107) rfl dX12_shift_72 ?_ ?_
                · refine ts_bipush rfl dX12_shift_107 ?_
                  exact td_iret rfl dX12_shift_109
                · refine ts_iload rfl dX12_shift_75 ?_
                  refine td_if_lt (tgt := 107) rfl dX12_shift_77 ?_ ?_
                  · refine ts_bipush rfl dX12_shift_107 ?_
                    exact td_iret rfl dX12_shift_109
                  · refine ts_iload_n (i := 2) rfl rfl dX12_shift_80 ?_
                    refine ts_aload_n (i := 0) rfl rfl dX12_shift_81 ?_
                    refine td_getR (q := 38) tl_X12_121 rfl ga_m_1 rfl dX12_shift_82 ?_
                    refine ts_iload_n (i := 1) rfl rfl dX12_shift_85 ?_
                    refine td_ialdK ga_m_38 (gn_m_38 _) h11 dX12_shift_86 ?_
                    refine ts_iload rfl dX12_shift_87 ?_
                    refine ts_isub dX12_shift_89 ?_
                    refine td_icmp_gt (tgt := 107) rfl dX12_shift_90 ?_ ?_
                    · refine ts_bipush rfl dX12_shift_107 ?_
                      exact td_iret rfl dX12_shift_109
                    · refine ts_iload rfl dX12_shift_93 ?_
                      refine ts_aload_n (i := 0) rfl rfl dX12_shift_95 ?_
                      refine td_getR (q := 38) tl_X12_121 rfl ga_m_1 rfl dX12_shift_96 ?_
                      refine ts_iload_n (i := 3) rfl rfl dX12_shift_99 ?_
                      refine td_ialdK ga_m_38 (gn_m_38 _) h12 dX12_shift_100 ?_
                      refine ts_iload rfl dX12_shift_101 ?_
                      refine ts_isub dX12_shift_103 ?_
                      refine td_icmp_le (tgt := 110) rfl dX12_shift_104 ?_ ?_
                      · refine ts_iconst rfl dX12_shift_110 ?_
                        refine tq_istore [tv_R 1, tv_I a1, tv_I a2, tv_I a3, tv_I a4, tv_I a5, tv_I 0] (Nat.le_of_ble_eq_true rfl) rfl rfl dX12_shift_111 ?_
                        exact S_X12_shift_113 hE d tf_N a1 a2 a3 a4 a5 0 D10
                      · refine ts_bipush rfl dX12_shift_107 ?_
                        exact td_iret rfl dX12_shift_109
            · refine ts_bipush rfl dX12_shift_63 ?_
              exact td_iret rfl dX12_shift_65
