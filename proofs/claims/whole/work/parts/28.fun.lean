def F_X12_taken (a1 : Int) (a2 : Int) (D : td_D) : Option (Int × td_D) :=
  td_b (F_X12_isShelf a1 D) fun r1 D2 =>
  if r1 = 0 then
    some ((-1), D2)
  else
    td_b (F_X12_in a2 0 7 D2) fun r3 D4 =>
    if r3 = 0 then
      some ((-1), D4)
    else
      if 0 ≤ a1 ∧ a1 < ((6 : Nat) : Int) then
        if D4 37 (Int.toNat a1) = (-1) then
          some ((-11), D4)
        else
          if D4 37 (Int.toNat a1) < 0 then
            some ((-12), D4)
          else
            if 0 ≤ D4 37 (Int.toNat a1) ∧ D4 37 (Int.toNat a1) < ((50 : Nat) : Int) then
              td_b (F_X12_isUnder (D4 35 (Int.toNat (D4 37 (Int.toNat a1)))) a2 D4) fun r7 D8 =>
              if r7 = 0 then
                some ((-12), D8)
              else
                if 0 ≤ D8 37 (Int.toNat a1) ∧ D8 37 (Int.toNat a1) < ((50 : Nat) : Int) then
                  some (D8 35 (Int.toNat (D8 37 (Int.toNat a1))), D8)
                else none
            else none
      else none
set_option maxHeartbeats 4000000 in
set_option maxRecDepth 20000 in
theorem S_X12_taken (l : Launch) {E : tv_E} (hE : tv_hE E) (d : Nat) (a1 : Int) (a2 : Int) (D : td_D) : td_msim l E (d + 2) mX12_taken g_m [tv_R 1, tv_I a1, tv_I a2] D (F_X12_taken a1 a2 D) := by
  refine td_meetL (ls := [tv_R 1, tv_I a1, tv_I a2]) rfl (Nat.le_of_ble_eq_true rfl) rfl ?_
  unfold F_X12_taken
  refine ts_iload_n (i := 1) rfl rfl dX12_taken_0 ?_
  refine tq_callS (y2 := mX12_isShelf) [tv_I a1] [] (st' := fun r1 => [tv_I r1]) tw_X12_isShelf tx_X12_isShelf tl_X12_167 rfl rfl rfl rfl (fun _ => rfl) dX12_taken_1 (S_X12_isShelf l hE _ a1 D) (fun r1 D2 => ?_)
  refine td_if_eq (tgt := 17) rfl dX12_taken_4 ?_ ?_
  · refine ts_iconst rfl dX12_taken_17 ?_
    exact td_iret rfl dX12_taken_18
  · refine ts_iload_n (i := 2) rfl rfl dX12_taken_7 ?_
    refine ts_iconst rfl dX12_taken_8 ?_
    refine ts_bipush rfl dX12_taken_9 ?_
    refine tq_callS (y2 := mX12_in) [tv_I a2, tv_I 0, tv_I 7] [] (st' := fun r3 => [tv_I r3]) tw_X12_in tx_X12_in tl_X12_142 rfl rfl rfl rfl (fun _ => rfl) dX12_taken_11 (S_X12_in l hE _ a2 0 7 D2) (fun r3 D4 => ?_)
    refine td_if_ne (tgt := 19) rfl dX12_taken_14 ?_ ?_
    · refine ts_iconst rfl dX12_taken_17 ?_
      exact td_iret rfl dX12_taken_18
    · refine ts_aload_n (i := 0) rfl rfl dX12_taken_19 ?_
      refine td_getR (q := 37) tl_X12_118 rfl ga_m_1 rfl dX12_taken_20 ?_
      refine ts_iload_n (i := 1) rfl rfl dX12_taken_23 ?_
      refine td_guard (fun h5 => ?_)
      refine td_ialdK ga_m_37 (gn_m_37 _) h5 dX12_taken_24 ?_
      refine ts_iconst rfl dX12_taken_25 ?_
      refine td_icmp_ne (tgt := 32) rfl dX12_taken_26 ?_ ?_
      · refine ts_bipush rfl dX12_taken_29 ?_
        exact td_iret rfl dX12_taken_31
      · refine ts_aload_n (i := 0) rfl rfl dX12_taken_32 ?_
        refine td_getR (q := 37) tl_X12_118 rfl ga_m_1 rfl dX12_taken_33 ?_
        refine ts_iload_n (i := 1) rfl rfl dX12_taken_36 ?_
        refine td_ialdK ga_m_37 (gn_m_37 _) h5 dX12_taken_37 ?_
        refine td_if_lt (tgt := 73) rfl dX12_taken_38 ?_ ?_
        · refine ts_bipush rfl dX12_taken_73 ?_
          exact td_iret rfl dX12_taken_75
        · refine ts_aload_n (i := 0) rfl rfl dX12_taken_41 ?_
          refine td_getR (q := 35) tl_X12_112 rfl ga_m_1 rfl dX12_taken_42 ?_
          refine ts_aload_n (i := 0) rfl rfl dX12_taken_45 ?_
          refine td_getR (q := 37) tl_X12_118 rfl ga_m_1 rfl dX12_taken_46 ?_
          refine ts_iload_n (i := 1) rfl rfl dX12_taken_49 ?_
          refine td_ialdK ga_m_37 (gn_m_37 _) h5 dX12_taken_50 ?_
          refine td_guard (fun h6 => ?_)
          refine td_ialdK ga_m_35 (gn_m_35 _) h6 dX12_taken_51 ?_
          refine ts_iload_n (i := 2) rfl rfl dX12_taken_52 ?_
          refine tq_callS (y2 := mX12_isUnder) [tv_I (D4 35 (Int.toNat (D4 37 (Int.toNat a1)))), tv_I a2] [] (st' := fun r7 => [tv_I r7]) tw_X12_isUnder tx_X12_isUnder tl_X12_401 rfl rfl rfl rfl (fun _ => rfl) dX12_taken_53 (S_X12_isUnder l hE _ (D4 35 (Int.toNat (D4 37 (Int.toNat a1)))) a2 D4) (fun r7 D8 => ?_)
          refine td_if_eq (tgt := 73) rfl dX12_taken_56 ?_ ?_
          · refine ts_bipush rfl dX12_taken_73 ?_
            exact td_iret rfl dX12_taken_75
          · refine ts_aload_n (i := 0) rfl rfl dX12_taken_59 ?_
            refine td_getR (q := 35) tl_X12_112 rfl ga_m_1 rfl dX12_taken_60 ?_
            refine ts_aload_n (i := 0) rfl rfl dX12_taken_63 ?_
            refine td_getR (q := 37) tl_X12_118 rfl ga_m_1 rfl dX12_taken_64 ?_
            refine ts_iload_n (i := 1) rfl rfl dX12_taken_67 ?_
            refine td_ialdK ga_m_37 (gn_m_37 _) h5 dX12_taken_68 ?_
            refine td_guard (fun h9 => ?_)
            refine td_ialdK ga_m_35 (gn_m_35 _) h9 dX12_taken_69 ?_
            refine ts_goto (tgt := 75) rfl dX12_taken_70 ?_
            exact td_iret rfl dX12_taken_75
