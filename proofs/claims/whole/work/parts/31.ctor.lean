theorem ta_0 : Cond.arrayClass (newarray.typeOf .int) ∈ tv_tb := tb_1 40 (by decide +kernel) rfl
theorem ta_1 : Cond.arrayClass (newarray.typeOf .byte) ∈ tv_tb := tb_5 176 (by decide +kernel) rfl
theorem ta_2 : Cond.arrayClass (newarray.typeOf .short) ∈ tv_tb := tb_5 177 (by decide +kernel) rfl
theorem ta_3 : Cond.arrayClass (newarray.typeOf .boolean) ∈ tv_tb := tb_5 178 (by decide +kernel) rfl
theorem ta_4 : Cond.arrayClass (newarray.typeOf .long) ∈ tv_tb := tb_2 67 (by decide +kernel) rfl
def tl_l (M : tv_M) (K : tv_M → Option (Int × tv_M)) : Option (Int × tv_M) := K M
theorem tl_let {l : Launch} {E : tv_E} {d : Nat} {y : tv_Y} {pc : Nat} {ls st : List tv_V} {M : tv_M} {K : tv_M → Option (Int × tv_M)} (h : ∀ M2, tv_sim l E d y pc ls st M2 (K M2)) : tv_sim l E d y pc ls st M (tl_l M K) := h M
def C_X7_init (p : Nat) (M : tv_M) : Option (Int × tv_M) :=
  tl_l (tv_new M 20 30) fun M1 =>
  if tv_at M1 (p + 1) = (7, 1) ∧ M.1.length < 1000 then
    tl_l (tv_upd M1 (p + 1) 0 (((M.1.length + 1 : Nat) : Int))) fun M2 =>
    some (0, M2)
  else none
set_option maxHeartbeats 4000000 in
set_option maxRecDepth 20000 in
theorem K_X7_init (l : Launch) {E : tv_E} (hal : tv_al E) (d : Nat) (p : Nat) (M : tv_M) : tv_msim l E (d + 1) mX7_init [tv_R (p + 1)] M (C_X7_init p M) := by
  refine tv_meet (as := [tv_R (p + 1)]) rfl (Nat.le_of_ble_eq_true rfl) ?_
  show tv_sim l E _ mX7_init 0 [tv_R (p + 1)] [] M _
  unfold C_X7_init
  refine ts_aload_n (i := 0) rfl rfl dX7_init_0 ?_
  refine ts_objInit tl_X7_3 tw_obi tw_obc rfl (tv_st8 rfl) dX7_init_1 ?_
  refine ts_aload_n (i := 0) rfl rfl dX7_init_4 ?_
  refine ts_bipush rfl dX7_init_5 ?_
  refine ts_newa (n := 30) (c := 20) (q := 0) hal ta_0 (Or.inl ⟨rfl, rfl, rfl⟩) rfl (by decide) dX7_init_7 ?_
  refine tl_let (fun M1 => ?_)
  refine ts_putR (q := M.1.length) tf_X7_9 (fun _ => rfl) rfl rfl (fun _ => ⟨rfl, rfl⟩) dX7_init_9 ?_
  refine tl_let (fun M2 => ?_)
  exact ts_vret rfl dX7_init_12
def C_X3_init (p : Nat) (M : tv_M) : Option (Int × tv_M) :=
  if tv_at M (p + 1) = (3, 13) then
    tl_l (tv_upd M (p + 1) 0 0) fun M1 =>
    if tv_at M1 (p + 1) = (3, 13) then
      tl_l (tv_upd M1 (p + 1) 1 0) fun M2 =>
      if tv_at M2 (p + 1) = (3, 13) then
        tl_l (tv_upd M2 (p + 1) 2 0) fun M3 =>
        tl_l (tv_new M3 20 6) fun M4 =>
        if tv_at M4 (p + 1) = (3, 13) ∧ M3.1.length < 1000 then
          tl_l (tv_upd M4 (p + 1) 3 (((M3.1.length + 1 : Nat) : Int))) fun M5 =>
          tl_l (tv_new M5 20 5) fun M6 =>
          if tv_at M6 (p + 1) = (3, 13) ∧ M5.1.length < 1000 then
            tl_l (tv_upd M6 (p + 1) 4 (((M5.1.length + 1 : Nat) : Int))) fun M7 =>
            tl_l (tv_new M7 7 1) fun M8 =>
            tv_b (C_X7_init (M7.1.length) M8) fun _ M9 =>
            if tv_at M9 (p + 1) = (3, 13) ∧ M7.1.length < 1000 then
              tl_l (tv_upd M9 (p + 1) 5 (((M7.1.length + 1 : Nat) : Int))) fun M10 =>
              tl_l (tv_new M10 20 10) fun M11 =>
              if tv_at M11 (p + 1) = (3, 13) ∧ M10.1.length < 1000 then
                tl_l (tv_upd M11 (p + 1) 6 (((M10.1.length + 1 : Nat) : Int))) fun M12 =>
                tl_l (tv_new M12 20 10) fun M13 =>
                if tv_at M13 (p + 1) = (3, 13) ∧ M12.1.length < 1000 then
                  tl_l (tv_upd M13 (p + 1) 7 (((M12.1.length + 1 : Nat) : Int))) fun M14 =>
                  tl_l (tv_new M14 20 10) fun M15 =>
                  if tv_at M15 (p + 1) = (3, 13) ∧ M14.1.length < 1000 then
                    tl_l (tv_upd M15 (p + 1) 8 (((M14.1.length + 1 : Nat) : Int))) fun M16 =>
                    if tv_at M16 (p + 1) = (3, 13) then
                      tl_l (tv_upd M16 (p + 1) 9 0) fun M17 =>
                      if tv_at M17 (p + 1) = (3, 13) then
                        tl_l (tv_upd M17 (p + 1) 10 10) fun M18 =>
                        if tv_at M18 (p + 1) = (3, 13) then
                          tl_l (tv_upd M18 (p + 1) 11 6) fun M19 =>
                          if tv_at M19 (p + 1) = (3, 13) then
                            tl_l (tv_upd M19 (p + 1) 12 20) fun M20 =>
                            some (0, M20)
                          else none
                        else none
                      else none
                    else none
                  else none
                else none
              else none
            else none
          else none
        else none
      else none
    else none
  else none
set_option maxHeartbeats 4000000 in
set_option maxRecDepth 20000 in
theorem K_X3_init (l : Launch) {E : tv_E} (hal : tv_al E) (d : Nat) (p : Nat) (M : tv_M) : tv_msim l E (d + 2) mX3_init [tv_R (p + 1)] M (C_X3_init p M) := by
  refine tv_meet (as := [tv_R (p + 1)]) rfl (Nat.le_of_ble_eq_true rfl) ?_
  show tv_sim l E _ mX3_init 0 [tv_R (p + 1)] [] M _
  unfold C_X3_init
  refine ts_aload_n (i := 0) rfl rfl dX3_init_0 ?_
  refine ts_objInit tl_X3_3 tw_obi tw_obc rfl (tv_st8 rfl) dX3_init_1 ?_
  refine ts_aload_n (i := 0) rfl rfl dX3_init_4 ?_
  refine ts_iconst rfl dX3_init_5 ?_
  refine ts_putI tf_X3_9 (fun _ => rfl) rfl dX3_init_6 ?_
  refine tl_let (fun M1 => ?_)
  refine ts_aload_n (i := 0) rfl rfl dX3_init_9 ?_
  refine ts_iconst rfl dX3_init_10 ?_
  refine ts_putI tf_X3_15 (fun _ => rfl) rfl dX3_init_11 ?_
  refine tl_let (fun M2 => ?_)
  refine ts_aload_n (i := 0) rfl rfl dX3_init_14 ?_
  refine ts_iconst rfl dX3_init_15 ?_
  refine ts_putI tf_X3_18 (fun _ => rfl) rfl dX3_init_16 ?_
  refine tl_let (fun M3 => ?_)
  refine ts_aload_n (i := 0) rfl rfl dX3_init_19 ?_
  refine ts_bipush rfl dX3_init_20 ?_
  refine ts_newa (n := 6) (c := 20) (q := 0) hal ta_0 (Or.inl ⟨rfl, rfl, rfl⟩) rfl (by decide) dX3_init_22 ?_
  refine tl_let (fun M4 => ?_)
  refine ts_putR (q := M3.1.length) tf_X3_21 (fun _ => rfl) rfl rfl (fun _ => ⟨rfl, rfl⟩) dX3_init_24 ?_
  refine tl_let (fun M5 => ?_)
  refine ts_aload_n (i := 0) rfl rfl dX3_init_27 ?_
  refine ts_iconst rfl dX3_init_28 ?_
  refine ts_newa (n := 5) (c := 20) (q := 0) hal ta_0 (Or.inl ⟨rfl, rfl, rfl⟩) rfl (by decide) dX3_init_29 ?_
  refine tl_let (fun M6 => ?_)
  refine ts_putR (q := M5.1.length) tf_X3_25 (fun _ => rfl) rfl rfl (fun _ => ⟨rfl, rfl⟩) dX3_init_31 ?_
  refine tl_let (fun M7 => ?_)
  refine ts_aload_n (i := 0) rfl rfl dX3_init_34 ?_
  refine ts_new hal tw_c7 (by decide) tl_X3_28 tk_7 tw_ini_7 dX3_init_35 ?_
  refine tl_let (fun M8 => ?_)
  refine ts_dupR dX3_init_38 ?_
  refine ts_callIN (y2 := mX7_init) (as := []) (st := [tv_R (M7.1.length + 1), tv_R (p + 1)]) (r := M7.1.length) tw_X7_init tx_X7_init rfl rfl tl_X3_30 rfl rfl (tv_st8 rfl) dX3_init_39 (K_X7_init l hal _ (M7.1.length) M8) (fun _ M9 _ => ?_)
  show tv_sim _ _ _ _ _ _ [tv_R (M7.1.length + 1), tv_R (p + 1)] M9 _
  refine ts_putR (q := M7.1.length) tf_X3_31 (fun _ => rfl) rfl rfl (fun _ => ⟨rfl, rfl⟩) dX3_init_42 ?_
  refine tl_let (fun M10 => ?_)
  refine ts_aload_n (i := 0) rfl rfl dX3_init_45 ?_
  refine ts_bipush rfl dX3_init_46 ?_
  refine ts_newa (n := 10) (c := 20) (q := 0) hal ta_0 (Or.inl ⟨rfl, rfl, rfl⟩) rfl (by decide) dX3_init_48 ?_
  refine tl_let (fun M11 => ?_)
  refine ts_putR (q := M10.1.length) tf_X3_35 (fun _ => rfl) rfl rfl (fun _ => ⟨rfl, rfl⟩) dX3_init_50 ?_
  refine tl_let (fun M12 => ?_)
  refine ts_aload_n (i := 0) rfl rfl dX3_init_53 ?_
  refine ts_bipush rfl dX3_init_54 ?_
  refine ts_newa (n := 10) (c := 20) (q := 0) hal ta_0 (Or.inl ⟨rfl, rfl, rfl⟩) rfl (by decide) dX3_init_56 ?_
  refine tl_let (fun M13 => ?_)
  refine ts_putR (q := M12.1.length) tf_X3_38 (fun _ => rfl) rfl rfl (fun _ => ⟨rfl, rfl⟩) dX3_init_58 ?_
  refine tl_let (fun M14 => ?_)
  refine ts_aload_n (i := 0) rfl rfl dX3_init_61 ?_
  refine ts_bipush rfl dX3_init_62 ?_
  refine ts_newa (n := 10) (c := 20) (q := 0) hal ta_0 (Or.inl ⟨rfl, rfl, rfl⟩) rfl (by decide) dX3_init_64 ?_
  refine tl_let (fun M15 => ?_)
  refine ts_putR (q := M14.1.length) tf_X3_41 (fun _ => rfl) rfl rfl (fun _ => ⟨rfl, rfl⟩) dX3_init_66 ?_
  refine tl_let (fun M16 => ?_)
  refine ts_aload_n (i := 0) rfl rfl dX3_init_69 ?_
  refine ts_iconst rfl dX3_init_70 ?_
  refine ts_putI tf_X3_44 (fun _ => rfl) rfl dX3_init_71 ?_
  refine tl_let (fun M17 => ?_)
  refine ts_aload_n (i := 0) rfl rfl dX3_init_74 ?_
  refine ts_bipush rfl dX3_init_75 ?_
  refine ts_putI tf_X3_47 (fun _ => rfl) rfl dX3_init_77 ?_
  refine tl_let (fun M18 => ?_)
  refine ts_aload_n (i := 0) rfl rfl dX3_init_80 ?_
  refine ts_bipush rfl dX3_init_81 ?_
  refine ts_putI tf_X3_50 (fun _ => rfl) rfl dX3_init_83 ?_
  refine tl_let (fun M19 => ?_)
  refine ts_aload_n (i := 0) rfl rfl dX3_init_86 ?_
  refine ts_bipush rfl dX3_init_87 ?_
  refine ts_putI tf_X3_53 (fun _ => rfl) rfl dX3_init_89 ?_
  refine tl_let (fun M20 => ?_)
  exact ts_vret rfl dX3_init_92
def C_X9_init (p : Nat) (M : tv_M) : Option (Int × tv_M) :=
  tl_l (tv_new M 20 120) fun M1 =>
  if tv_at M1 (p + 1) = (9, 4) ∧ M.1.length < 1000 then
    tl_l (tv_upd M1 (p + 1) 0 (((M.1.length + 1 : Nat) : Int))) fun M2 =>
    if tv_at M2 (p + 1) = (9, 4) then
      tl_l (tv_upd M2 (p + 1) 1 0) fun M3 =>
      if tv_at M3 (p + 1) = (9, 4) then
        tl_l (tv_upd M3 (p + 1) 2 0) fun M4 =>
        if tv_at M4 (p + 1) = (9, 4) ∧ ((0 : Int) = 0 ∨ (0 : Int) = 1) then
          tl_l (tv_upd M4 (p + 1) 3 0) fun M5 =>
          some (0, M5)
        else none
      else none
    else none
  else none
set_option maxHeartbeats 4000000 in
set_option maxRecDepth 20000 in
theorem K_X9_init (l : Launch) {E : tv_E} (hal : tv_al E) (d : Nat) (p : Nat) (M : tv_M) : tv_msim l E (d + 1) mX9_init [tv_R (p + 1)] M (C_X9_init p M) := by
  refine tv_meet (as := [tv_R (p + 1)]) rfl (Nat.le_of_ble_eq_true rfl) ?_
  show tv_sim l E _ mX9_init 0 [tv_R (p + 1)] [] M _
  unfold C_X9_init
  refine ts_aload_n (i := 0) rfl rfl dX9_init_0 ?_
  refine ts_objInit tl_X9_3 tw_obi tw_obc rfl (tv_st8 rfl) dX9_init_1 ?_
  refine ts_aload_n (i := 0) rfl rfl dX9_init_4 ?_
  refine ts_bipush rfl dX9_init_5 ?_
  refine ts_newa (n := 120) (c := 20) (q := 0) hal ta_0 (Or.inl ⟨rfl, rfl, rfl⟩) rfl (by decide) dX9_init_7 ?_
  refine tl_let (fun M1 => ?_)
  refine ts_putR (q := M.1.length) tf_X9_9 (fun _ => rfl) rfl rfl (fun _ => ⟨rfl, rfl⟩) dX9_init_9 ?_
  refine tl_let (fun M2 => ?_)
  refine ts_aload_n (i := 0) rfl rfl dX9_init_12 ?_
  refine ts_iconst rfl dX9_init_13 ?_
  refine ts_putI tf_X9_15 (fun _ => rfl) rfl dX9_init_14 ?_
  refine tl_let (fun M3 => ?_)
  refine ts_aload_n (i := 0) rfl rfl dX9_init_17 ?_
  refine ts_iconst rfl dX9_init_18 ?_
  refine ts_putI tf_X9_19 (fun _ => rfl) rfl dX9_init_19 ?_
  refine tl_let (fun M4 => ?_)
  refine ts_aload_n (i := 0) rfl rfl dX9_init_22 ?_
  refine ts_iconst rfl dX9_init_23 ?_
  refine ts_putZ tf_X9_22 (fun _ => rfl) rfl dX9_init_24 ?_
  refine tl_let (fun M5 => ?_)
  exact ts_vret rfl dX9_init_27
def C_X1_init (p : Nat) (M : tv_M) : Option (Int × tv_M) :=
  tl_l (tv_new M 20 128) fun M1 =>
  if tv_at M1 (p + 1) = (1, 4) ∧ M.1.length < 1000 then
    tl_l (tv_upd M1 (p + 1) 0 (((M.1.length + 1 : Nat) : Int))) fun M2 =>
    tl_l (tv_new M2 20 128) fun M3 =>
    if tv_at M3 (p + 1) = (1, 4) ∧ M2.1.length < 1000 then
      tl_l (tv_upd M3 (p + 1) 1 (((M2.1.length + 1 : Nat) : Int))) fun M4 =>
      tl_l (tv_new M4 20 128) fun M5 =>
      if tv_at M5 (p + 1) = (1, 4) ∧ M4.1.length < 1000 then
        tl_l (tv_upd M5 (p + 1) 2 (((M4.1.length + 1 : Nat) : Int))) fun M6 =>
        if tv_at M6 (p + 1) = (1, 4) then
          tl_l (tv_upd M6 (p + 1) 3 0) fun M7 =>
          some (0, M7)
        else none
      else none
    else none
  else none
set_option maxHeartbeats 4000000 in
set_option maxRecDepth 20000 in
theorem K_X1_init (l : Launch) {E : tv_E} (hal : tv_al E) (d : Nat) (p : Nat) (M : tv_M) : tv_msim l E (d + 1) mX1_init [tv_R (p + 1)] M (C_X1_init p M) := by
  refine tv_meet (as := [tv_R (p + 1)]) rfl (Nat.le_of_ble_eq_true rfl) ?_
  show tv_sim l E _ mX1_init 0 [tv_R (p + 1)] [] M _
  unfold C_X1_init
  refine ts_aload_n (i := 0) rfl rfl dX1_init_0 ?_
  refine ts_objInit tl_X1_3 tw_obi tw_obc rfl (tv_st8 rfl) dX1_init_1 ?_
  refine ts_aload_n (i := 0) rfl rfl dX1_init_4 ?_
  refine ts_sipush rfl dX1_init_5 ?_
  refine ts_newa (n := 128) (c := 20) (q := 0) hal ta_0 (Or.inl ⟨rfl, rfl, rfl⟩) rfl (by decide) dX1_init_8 ?_
  refine tl_let (fun M1 => ?_)
  refine ts_putR (q := M.1.length) tf_X1_9 (fun _ => rfl) rfl rfl (fun _ => ⟨rfl, rfl⟩) dX1_init_10 ?_
  refine tl_let (fun M2 => ?_)
  refine ts_aload_n (i := 0) rfl rfl dX1_init_13 ?_
  refine ts_sipush rfl dX1_init_14 ?_
  refine ts_newa (n := 128) (c := 20) (q := 0) hal ta_0 (Or.inl ⟨rfl, rfl, rfl⟩) rfl (by decide) dX1_init_17 ?_
  refine tl_let (fun M3 => ?_)
  refine ts_putR (q := M2.1.length) tf_X1_15 (fun _ => rfl) rfl rfl (fun _ => ⟨rfl, rfl⟩) dX1_init_19 ?_
  refine tl_let (fun M4 => ?_)
  refine ts_aload_n (i := 0) rfl rfl dX1_init_22 ?_
  refine ts_sipush rfl dX1_init_23 ?_
  refine ts_newa (n := 128) (c := 20) (q := 0) hal ta_0 (Or.inl ⟨rfl, rfl, rfl⟩) rfl (by decide) dX1_init_26 ?_
  refine tl_let (fun M5 => ?_)
  refine ts_putR (q := M4.1.length) tf_X1_18 (fun _ => rfl) rfl rfl (fun _ => ⟨rfl, rfl⟩) dX1_init_28 ?_
  refine tl_let (fun M6 => ?_)
  refine ts_aload_n (i := 0) rfl rfl dX1_init_31 ?_
  refine ts_iconst rfl dX1_init_32 ?_
  refine ts_putI tf_X1_21 (fun _ => rfl) rfl dX1_init_33 ?_
  refine tl_let (fun M7 => ?_)
  exact ts_vret rfl dX1_init_36
def C_X10_init (p : Nat) (M : tv_M) : Option (Int × tv_M) :=
  tl_l (tv_new M 20 100) fun M1 =>
  if tv_at M1 (p + 1) = (10, 3) ∧ M.1.length < 1000 then
    tl_l (tv_upd M1 (p + 1) 0 (((M.1.length + 1 : Nat) : Int))) fun M2 =>
    tl_l (tv_new M2 20 100) fun M3 =>
    if tv_at M3 (p + 1) = (10, 3) ∧ M2.1.length < 1000 then
      tl_l (tv_upd M3 (p + 1) 1 (((M2.1.length + 1 : Nat) : Int))) fun M4 =>
      tl_l (tv_new M4 20 100) fun M5 =>
      if tv_at M5 (p + 1) = (10, 3) ∧ M4.1.length < 1000 then
        tl_l (tv_upd M5 (p + 1) 2 (((M4.1.length + 1 : Nat) : Int))) fun M6 =>
        some (0, M6)
      else none
    else none
  else none
set_option maxHeartbeats 4000000 in
set_option maxRecDepth 20000 in
theorem K_X10_init (l : Launch) {E : tv_E} (hal : tv_al E) (d : Nat) (p : Nat) (M : tv_M) : tv_msim l E (d + 1) mX10_init [tv_R (p + 1)] M (C_X10_init p M) := by
  refine tv_meet (as := [tv_R (p + 1)]) rfl (Nat.le_of_ble_eq_true rfl) ?_
  show tv_sim l E _ mX10_init 0 [tv_R (p + 1)] [] M _
  unfold C_X10_init
  refine ts_aload_n (i := 0) rfl rfl dX10_init_0 ?_
  refine ts_objInit tl_X10_3 tw_obi tw_obc rfl (tv_st8 rfl) dX10_init_1 ?_
  refine ts_aload_n (i := 0) rfl rfl dX10_init_4 ?_
  refine ts_bipush rfl dX10_init_5 ?_
  refine ts_newa (n := 100) (c := 20) (q := 0) hal ta_0 (Or.inl ⟨rfl, rfl, rfl⟩) rfl (by decide) dX10_init_7 ?_
  refine tl_let (fun M1 => ?_)
  refine ts_putR (q := M.1.length) tf_X10_9 (fun _ => rfl) rfl rfl (fun _ => ⟨rfl, rfl⟩) dX10_init_9 ?_
  refine tl_let (fun M2 => ?_)
  refine ts_aload_n (i := 0) rfl rfl dX10_init_12 ?_
  refine ts_bipush rfl dX10_init_13 ?_
  refine ts_newa (n := 100) (c := 20) (q := 0) hal ta_0 (Or.inl ⟨rfl, rfl, rfl⟩) rfl (by decide) dX10_init_15 ?_
  refine tl_let (fun M3 => ?_)
  refine ts_putR (q := M2.1.length) tf_X10_15 (fun _ => rfl) rfl rfl (fun _ => ⟨rfl, rfl⟩) dX10_init_17 ?_
  refine tl_let (fun M4 => ?_)
  refine ts_aload_n (i := 0) rfl rfl dX10_init_20 ?_
  refine ts_bipush rfl dX10_init_21 ?_
  refine ts_newa (n := 100) (c := 20) (q := 0) hal ta_0 (Or.inl ⟨rfl, rfl, rfl⟩) rfl (by decide) dX10_init_23 ?_
  refine tl_let (fun M5 => ?_)
  refine ts_putR (q := M4.1.length) tf_X10_18 (fun _ => rfl) rfl rfl (fun _ => ⟨rfl, rfl⟩) dX10_init_25 ?_
  refine tl_let (fun M6 => ?_)
  exact ts_vret rfl dX10_init_28
def C_X4_init (p : Nat) (M : tv_M) : Option (Int × tv_M) :=
  tl_l (tv_new M 20 704) fun M1 =>
  if tv_at M1 (p + 1) = (4, 1) ∧ M.1.length < 1000 then
    tl_l (tv_upd M1 (p + 1) 0 (((M.1.length + 1 : Nat) : Int))) fun M2 =>
    some (0, M2)
  else none
set_option maxHeartbeats 4000000 in
set_option maxRecDepth 20000 in
theorem K_X4_init (l : Launch) {E : tv_E} (hal : tv_al E) (d : Nat) (p : Nat) (M : tv_M) : tv_msim l E (d + 1) mX4_init [tv_R (p + 1)] M (C_X4_init p M) := by
  refine tv_meet (as := [tv_R (p + 1)]) rfl (Nat.le_of_ble_eq_true rfl) ?_
  show tv_sim l E _ mX4_init 0 [tv_R (p + 1)] [] M _
  unfold C_X4_init
  refine ts_aload_n (i := 0) rfl rfl dX4_init_0 ?_
  refine ts_objInit tl_X4_3 tw_obi tw_obc rfl (tv_st8 rfl) dX4_init_1 ?_
  refine ts_aload_n (i := 0) rfl rfl dX4_init_4 ?_
  refine ts_sipush rfl dX4_init_5 ?_
  refine ts_newa (n := 704) (c := 20) (q := 0) hal ta_0 (Or.inl ⟨rfl, rfl, rfl⟩) rfl (by decide) dX4_init_8 ?_
  refine tl_let (fun M1 => ?_)
  refine ts_putR (q := M.1.length) tf_X4_11 (fun _ => rfl) rfl rfl (fun _ => ⟨rfl, rfl⟩) dX4_init_10 ?_
  refine tl_let (fun M2 => ?_)
  exact ts_vret rfl dX4_init_13
def C_X5_init (p : Nat) (M : tv_M) : Option (Int × tv_M) :=
  tl_l (tv_new M 20 20) fun M1 =>
  if tv_at M1 (p + 1) = (5, 4) ∧ M.1.length < 1000 then
    tl_l (tv_upd M1 (p + 1) 0 (((M.1.length + 1 : Nat) : Int))) fun M2 =>
    tl_l (tv_new M2 20 20) fun M3 =>
    if tv_at M3 (p + 1) = (5, 4) ∧ M2.1.length < 1000 then
      tl_l (tv_upd M3 (p + 1) 1 (((M2.1.length + 1 : Nat) : Int))) fun M4 =>
      if tv_at M4 (p + 1) = (5, 4) then
        tl_l (tv_upd M4 (p + 1) 2 0) fun M5 =>
        if tv_at M5 (p + 1) = (5, 4) then
          tl_l (tv_upd M5 (p + 1) 3 0) fun M6 =>
          some (0, M6)
        else none
      else none
    else none
  else none
set_option maxHeartbeats 4000000 in
set_option maxRecDepth 20000 in
theorem K_X5_init (l : Launch) {E : tv_E} (hal : tv_al E) (d : Nat) (p : Nat) (M : tv_M) : tv_msim l E (d + 1) mX5_init [tv_R (p + 1)] M (C_X5_init p M) := by
  refine tv_meet (as := [tv_R (p + 1)]) rfl (Nat.le_of_ble_eq_true rfl) ?_
  show tv_sim l E _ mX5_init 0 [tv_R (p + 1)] [] M _
  unfold C_X5_init
  refine ts_aload_n (i := 0) rfl rfl dX5_init_0 ?_
  refine ts_objInit tl_X5_3 tw_obi tw_obc rfl (tv_st8 rfl) dX5_init_1 ?_
  refine ts_aload_n (i := 0) rfl rfl dX5_init_4 ?_
  refine ts_bipush rfl dX5_init_5 ?_
  refine ts_newa (n := 20) (c := 20) (q := 0) hal ta_0 (Or.inl ⟨rfl, rfl, rfl⟩) rfl (by decide) dX5_init_7 ?_
  refine tl_let (fun M1 => ?_)
  refine ts_putR (q := M.1.length) tf_X5_9 (fun _ => rfl) rfl rfl (fun _ => ⟨rfl, rfl⟩) dX5_init_9 ?_
  refine tl_let (fun M2 => ?_)
  refine ts_aload_n (i := 0) rfl rfl dX5_init_12 ?_
  refine ts_bipush rfl dX5_init_13 ?_
  refine ts_newa (n := 20) (c := 20) (q := 0) hal ta_0 (Or.inl ⟨rfl, rfl, rfl⟩) rfl (by decide) dX5_init_15 ?_
  refine tl_let (fun M3 => ?_)
  refine ts_putR (q := M2.1.length) tf_X5_15 (fun _ => rfl) rfl rfl (fun _ => ⟨rfl, rfl⟩) dX5_init_17 ?_
  refine tl_let (fun M4 => ?_)
  refine ts_aload_n (i := 0) rfl rfl dX5_init_20 ?_
  refine ts_iconst rfl dX5_init_21 ?_
  refine ts_putI tf_X5_18 (fun _ => rfl) rfl dX5_init_22 ?_
  refine tl_let (fun M5 => ?_)
  refine ts_aload_n (i := 0) rfl rfl dX5_init_25 ?_
  refine ts_iconst rfl dX5_init_26 ?_
  refine ts_putI tf_X5_22 (fun _ => rfl) rfl dX5_init_27 ?_
  refine tl_let (fun M6 => ?_)
  exact ts_vret rfl dX5_init_30
def C_X0_init (p : Nat) (M : tv_M) : Option (Int × tv_M) :=
  tl_l (tv_new M 20 40) fun M1 =>
  if tv_at M1 (p + 1) = (0, 6) ∧ M.1.length < 1000 then
    tl_l (tv_upd M1 (p + 1) 0 (((M.1.length + 1 : Nat) : Int))) fun M2 =>
    tl_l (tv_new M2 20 40) fun M3 =>
    if tv_at M3 (p + 1) = (0, 6) ∧ M2.1.length < 1000 then
      tl_l (tv_upd M3 (p + 1) 1 (((M2.1.length + 1 : Nat) : Int))) fun M4 =>
      tl_l (tv_new M4 20 40) fun M5 =>
      if tv_at M5 (p + 1) = (0, 6) ∧ M4.1.length < 1000 then
        tl_l (tv_upd M5 (p + 1) 2 (((M4.1.length + 1 : Nat) : Int))) fun M6 =>
        tl_l (tv_new M6 20 40) fun M7 =>
        if tv_at M7 (p + 1) = (0, 6) ∧ M6.1.length < 1000 then
          tl_l (tv_upd M7 (p + 1) 3 (((M6.1.length + 1 : Nat) : Int))) fun M8 =>
          if tv_at M8 (p + 1) = (0, 6) then
            tl_l (tv_upd M8 (p + 1) 4 0) fun M9 =>
            if tv_at M9 (p + 1) = (0, 6) then
              tl_l (tv_upd M9 (p + 1) 5 0) fun M10 =>
              some (0, M10)
            else none
          else none
        else none
      else none
    else none
  else none
set_option maxHeartbeats 4000000 in
set_option maxRecDepth 20000 in
theorem K_X0_init (l : Launch) {E : tv_E} (hal : tv_al E) (d : Nat) (p : Nat) (M : tv_M) : tv_msim l E (d + 1) mX0_init [tv_R (p + 1)] M (C_X0_init p M) := by
  refine tv_meet (as := [tv_R (p + 1)]) rfl (Nat.le_of_ble_eq_true rfl) ?_
  show tv_sim l E _ mX0_init 0 [tv_R (p + 1)] [] M _
  unfold C_X0_init
  refine ts_aload_n (i := 0) rfl rfl dX0_init_0 ?_
  refine ts_objInit tl_X0_3 tw_obi tw_obc rfl (tv_st8 rfl) dX0_init_1 ?_
  refine ts_aload_n (i := 0) rfl rfl dX0_init_4 ?_
  refine ts_bipush rfl dX0_init_5 ?_
  refine ts_newa (n := 40) (c := 20) (q := 0) hal ta_0 (Or.inl ⟨rfl, rfl, rfl⟩) rfl (by decide) dX0_init_7 ?_
  refine tl_let (fun M1 => ?_)
  refine ts_putR (q := M.1.length) tf_X0_9 (fun _ => rfl) rfl rfl (fun _ => ⟨rfl, rfl⟩) dX0_init_9 ?_
  refine tl_let (fun M2 => ?_)
  refine ts_aload_n (i := 0) rfl rfl dX0_init_12 ?_
  refine ts_bipush rfl dX0_init_13 ?_
  refine ts_newa (n := 40) (c := 20) (q := 0) hal ta_0 (Or.inl ⟨rfl, rfl, rfl⟩) rfl (by decide) dX0_init_15 ?_
  refine tl_let (fun M3 => ?_)
  refine ts_putR (q := M2.1.length) tf_X0_15 (fun _ => rfl) rfl rfl (fun _ => ⟨rfl, rfl⟩) dX0_init_17 ?_
  refine tl_let (fun M4 => ?_)
  refine ts_aload_n (i := 0) rfl rfl dX0_init_20 ?_
  refine ts_bipush rfl dX0_init_21 ?_
  refine ts_newa (n := 40) (c := 20) (q := 0) hal ta_0 (Or.inl ⟨rfl, rfl, rfl⟩) rfl (by decide) dX0_init_23 ?_
  refine tl_let (fun M5 => ?_)
  refine ts_putR (q := M4.1.length) tf_X0_18 (fun _ => rfl) rfl rfl (fun _ => ⟨rfl, rfl⟩) dX0_init_25 ?_
  refine tl_let (fun M6 => ?_)
  refine ts_aload_n (i := 0) rfl rfl dX0_init_28 ?_
  refine ts_bipush rfl dX0_init_29 ?_
  refine ts_newa (n := 40) (c := 20) (q := 0) hal ta_0 (Or.inl ⟨rfl, rfl, rfl⟩) rfl (by decide) dX0_init_31 ?_
  refine tl_let (fun M7 => ?_)
  refine ts_putR (q := M6.1.length) tf_X0_21 (fun _ => rfl) rfl rfl (fun _ => ⟨rfl, rfl⟩) dX0_init_33 ?_
  refine tl_let (fun M8 => ?_)
  refine ts_aload_n (i := 0) rfl rfl dX0_init_36 ?_
  refine ts_iconst rfl dX0_init_37 ?_
  refine ts_putI tf_X0_24 (fun _ => rfl) rfl dX0_init_38 ?_
  refine tl_let (fun M9 => ?_)
  refine ts_aload_n (i := 0) rfl rfl dX0_init_41 ?_
  refine ts_iconst rfl dX0_init_42 ?_
  refine ts_putI tf_X0_28 (fun _ => rfl) rfl dX0_init_43 ?_
  refine tl_let (fun M10 => ?_)
  exact ts_vret rfl dX0_init_46
def C_X2_init (p : Nat) (M : tv_M) : Option (Int × tv_M) :=
  if tv_at M (p + 1) = (2, 5) ∧ ((0 : Int) = 0 ∨ (0 : Int) = 1) then
    tl_l (tv_upd M (p + 1) 0 0) fun M1 =>
    if tv_at M1 (p + 1) = (2, 5) then
      tl_l (tv_upd M1 (p + 1) 1 0) fun M2 =>
      tl_l (tv_new M2 20 6) fun M3 =>
      if tv_at M3 (p + 1) = (2, 5) ∧ M2.1.length < 1000 then
        tl_l (tv_upd M3 (p + 1) 2 (((M2.1.length + 1 : Nat) : Int))) fun M4 =>
        tl_l (tv_new M4 7 1) fun M5 =>
        tv_b (C_X7_init (M4.1.length) M5) fun _ M6 =>
        if tv_at M6 (p + 1) = (2, 5) ∧ M4.1.length < 1000 then
          tl_l (tv_upd M6 (p + 1) 3 (((M4.1.length + 1 : Nat) : Int))) fun M7 =>
          tl_l (tv_new M7 20 6) fun M8 =>
          if tv_at M8 (p + 1) = (2, 5) ∧ M7.1.length < 1000 then
            tl_l (tv_upd M8 (p + 1) 4 (((M7.1.length + 1 : Nat) : Int))) fun M9 =>
            some (0, M9)
          else none
        else none
      else none
    else none
  else none
set_option maxHeartbeats 4000000 in
set_option maxRecDepth 20000 in
theorem K_X2_init (l : Launch) {E : tv_E} (hal : tv_al E) (d : Nat) (p : Nat) (M : tv_M) : tv_msim l E (d + 2) mX2_init [tv_R (p + 1)] M (C_X2_init p M) := by
  refine tv_meet (as := [tv_R (p + 1)]) rfl (Nat.le_of_ble_eq_true rfl) ?_
  show tv_sim l E _ mX2_init 0 [tv_R (p + 1)] [] M _
  unfold C_X2_init
  refine ts_aload_n (i := 0) rfl rfl dX2_init_0 ?_
  refine ts_objInit tl_X2_3 tw_obi tw_obc rfl (tv_st8 rfl) dX2_init_1 ?_
  refine ts_aload_n (i := 0) rfl rfl dX2_init_4 ?_
  refine ts_iconst rfl dX2_init_5 ?_
  refine ts_putZ tf_X2_9 (fun _ => rfl) rfl dX2_init_6 ?_
  refine tl_let (fun M1 => ?_)
  refine ts_aload_n (i := 0) rfl rfl dX2_init_9 ?_
  refine ts_iconst rfl dX2_init_10 ?_
  refine ts_putI tf_X2_15 (fun _ => rfl) rfl dX2_init_11 ?_
  refine tl_let (fun M2 => ?_)
  refine ts_aload_n (i := 0) rfl rfl dX2_init_14 ?_
  refine ts_bipush rfl dX2_init_15 ?_
  refine ts_newa (n := 6) (c := 20) (q := 0) hal ta_0 (Or.inl ⟨rfl, rfl, rfl⟩) rfl (by decide) dX2_init_17 ?_
  refine tl_let (fun M3 => ?_)
  refine ts_putR (q := M2.1.length) tf_X2_19 (fun _ => rfl) rfl rfl (fun _ => ⟨rfl, rfl⟩) dX2_init_19 ?_
  refine tl_let (fun M4 => ?_)
  refine ts_aload_n (i := 0) rfl rfl dX2_init_22 ?_
  refine ts_new hal tw_c7 (by decide) tl_X2_23 tk_7 tw_ini_7 dX2_init_23 ?_
  refine tl_let (fun M5 => ?_)
  refine ts_dupR dX2_init_26 ?_
  refine ts_callIN (y2 := mX7_init) (as := []) (st := [tv_R (M4.1.length + 1), tv_R (p + 1)]) (r := M4.1.length) tw_X7_init tx_X7_init rfl rfl tl_X2_25 rfl rfl (tv_st8 rfl) dX2_init_27 (K_X7_init l hal _ (M4.1.length) M5) (fun _ M6 _ => ?_)
  show tv_sim _ _ _ _ _ _ [tv_R (M4.1.length + 1), tv_R (p + 1)] M6 _
  refine ts_putR (q := M4.1.length) tf_X2_26 (fun _ => rfl) rfl rfl (fun _ => ⟨rfl, rfl⟩) dX2_init_30 ?_
  refine tl_let (fun M7 => ?_)
  refine ts_aload_n (i := 0) rfl rfl dX2_init_33 ?_
  refine ts_bipush rfl dX2_init_34 ?_
  refine ts_newa (n := 6) (c := 20) (q := 0) hal ta_0 (Or.inl ⟨rfl, rfl, rfl⟩) rfl (by decide) dX2_init_36 ?_
  refine tl_let (fun M8 => ?_)
  refine ts_putR (q := M7.1.length) tf_X2_30 (fun _ => rfl) rfl rfl (fun _ => ⟨rfl, rfl⟩) dX2_init_38 ?_
  refine tl_let (fun M9 => ?_)
  exact ts_vret rfl dX2_init_41
def C_X8_init (p : Nat) (M : tv_M) : Option (Int × tv_M) :=
  tl_l (tv_new M 20 50) fun M1 =>
  if tv_at M1 (p + 1) = (8, 5) ∧ M.1.length < 1000 then
    tl_l (tv_upd M1 (p + 1) 0 (((M.1.length + 1 : Nat) : Int))) fun M2 =>
    if tv_at M2 (p + 1) = (8, 5) then
      tl_l (tv_upd M2 (p + 1) 1 0) fun M3 =>
      tl_l (tv_new M3 20 24) fun M4 =>
      if tv_at M4 (p + 1) = (8, 5) ∧ M3.1.length < 1000 then
        tl_l (tv_upd M4 (p + 1) 2 (((M3.1.length + 1 : Nat) : Int))) fun M5 =>
        if tv_at M5 (p + 1) = (8, 5) then
          tl_l (tv_upd M5 (p + 1) 3 0) fun M6 =>
          if tv_at M6 (p + 1) = (8, 5) then
            tl_l (tv_upd M6 (p + 1) 4 0) fun M7 =>
            some (0, M7)
          else none
        else none
      else none
    else none
  else none
set_option maxHeartbeats 4000000 in
set_option maxRecDepth 20000 in
theorem K_X8_init (l : Launch) {E : tv_E} (hal : tv_al E) (d : Nat) (p : Nat) (M : tv_M) : tv_msim l E (d + 1) mX8_init [tv_R (p + 1)] M (C_X8_init p M) := by
  refine tv_meet (as := [tv_R (p + 1)]) rfl (Nat.le_of_ble_eq_true rfl) ?_
  show tv_sim l E _ mX8_init 0 [tv_R (p + 1)] [] M _
  unfold C_X8_init
  refine ts_aload_n (i := 0) rfl rfl dX8_init_0 ?_
  refine ts_objInit tl_X8_3 tw_obi tw_obc rfl (tv_st8 rfl) dX8_init_1 ?_
  refine ts_aload_n (i := 0) rfl rfl dX8_init_4 ?_
  refine ts_bipush rfl dX8_init_5 ?_
  refine ts_newa (n := 50) (c := 20) (q := 0) hal ta_0 (Or.inl ⟨rfl, rfl, rfl⟩) rfl (by decide) dX8_init_7 ?_
  refine tl_let (fun M1 => ?_)
  refine ts_putR (q := M.1.length) tf_X8_9 (fun _ => rfl) rfl rfl (fun _ => ⟨rfl, rfl⟩) dX8_init_9 ?_
  refine tl_let (fun M2 => ?_)
  refine ts_aload_n (i := 0) rfl rfl dX8_init_12 ?_
  refine ts_iconst rfl dX8_init_13 ?_
  refine ts_putI tf_X8_15 (fun _ => rfl) rfl dX8_init_14 ?_
  refine tl_let (fun M3 => ?_)
  refine ts_aload_n (i := 0) rfl rfl dX8_init_17 ?_
  refine ts_bipush rfl dX8_init_18 ?_
  refine ts_newa (n := 24) (c := 20) (q := 0) hal ta_0 (Or.inl ⟨rfl, rfl, rfl⟩) rfl (by decide) dX8_init_20 ?_
  refine tl_let (fun M4 => ?_)
  refine ts_putR (q := M3.1.length) tf_X8_19 (fun _ => rfl) rfl rfl (fun _ => ⟨rfl, rfl⟩) dX8_init_22 ?_
  refine tl_let (fun M5 => ?_)
  refine ts_aload_n (i := 0) rfl rfl dX8_init_25 ?_
  refine ts_iconst rfl dX8_init_26 ?_
  refine ts_putI tf_X8_22 (fun _ => rfl) rfl dX8_init_27 ?_
  refine tl_let (fun M6 => ?_)
  refine ts_aload_n (i := 0) rfl rfl dX8_init_30 ?_
  refine ts_iconst rfl dX8_init_31 ?_
  refine ts_putI tf_X8_25 (fun _ => rfl) rfl dX8_init_32 ?_
  refine tl_let (fun M7 => ?_)
  exact ts_vret rfl dX8_init_35
def C_X6_init (p : Nat) (M : tv_M) : Option (Int × tv_M) :=
  if tv_at M (p + 1) = (6, 4) then
    tl_l (tv_upd M (p + 1) 0 ((-1))) fun M1 =>
    if tv_at M1 (p + 1) = (6, 4) then
      tl_l (tv_upd M1 (p + 1) 1 ((-1))) fun M2 =>
      if tv_at M2 (p + 1) = (6, 4) then
        tl_l (tv_upd M2 (p + 1) 2 0) fun M3 =>
        tl_l (tv_new M3 24 60) fun M4 =>
        if tv_at M4 (p + 1) = (6, 4) ∧ M3.1.length < 1000 then
          tl_l (tv_upd M4 (p + 1) 3 (((M3.1.length + 1 : Nat) : Int))) fun M5 =>
          some (0, M5)
        else none
      else none
    else none
  else none
set_option maxHeartbeats 4000000 in
set_option maxRecDepth 20000 in
theorem K_X6_init (l : Launch) {E : tv_E} (hal : tv_al E) (d : Nat) (p : Nat) (M : tv_M) : tv_msim l E (d + 1) mX6_init [tv_R (p + 1)] M (C_X6_init p M) := by
  refine tv_meet (as := [tv_R (p + 1)]) rfl (Nat.le_of_ble_eq_true rfl) ?_
  show tv_sim l E _ mX6_init 0 [tv_R (p + 1)] [] M _
  unfold C_X6_init
  refine ts_aload_n (i := 0) rfl rfl dX6_init_0 ?_
  refine ts_objInit tl_X6_3 tw_obi tw_obc rfl (tv_st8 rfl) dX6_init_1 ?_
  refine ts_aload_n (i := 0) rfl rfl dX6_init_4 ?_
  refine ts_iconst rfl dX6_init_5 ?_
  refine ts_putI tf_X6_9 (fun _ => rfl) rfl dX6_init_6 ?_
  refine tl_let (fun M1 => ?_)
  refine ts_aload_n (i := 0) rfl rfl dX6_init_9 ?_
  refine ts_iconst rfl dX6_init_10 ?_
  refine ts_putI tf_X6_15 (fun _ => rfl) rfl dX6_init_11 ?_
  refine tl_let (fun M2 => ?_)
  refine ts_aload_n (i := 0) rfl rfl dX6_init_14 ?_
  refine ts_iconst rfl dX6_init_15 ?_
  refine ts_putI tf_X6_18 (fun _ => rfl) rfl dX6_init_16 ?_
  refine tl_let (fun M3 => ?_)
  refine ts_aload_n (i := 0) rfl rfl dX6_init_19 ?_
  refine ts_bipush rfl dX6_init_20 ?_
  refine ts_newa (n := 60) (c := 24) (q := 4) hal ta_4 (Or.inr (Or.inr (Or.inr (Or.inr ⟨rfl, rfl, rfl⟩)))) rfl (by decide) dX6_init_22 ?_
  refine tl_let (fun M4 => ?_)
  refine ts_putR (q := M3.1.length) tf_X6_21 (fun _ => rfl) rfl rfl (fun _ => ⟨rfl, rfl⟩) dX6_init_24 ?_
  refine tl_let (fun M5 => ?_)
  exact ts_vret rfl dX6_init_27
def C_X11_init_161 : Nat → Nat → Int → tv_M → Option (Int × tv_M)
  | 0, _, _, _ => none
  | n + 1, p, v1, M =>
    if 6 ≤ v1 then
      some (0, M)
    else
      if tv_at M (p + 1) = (11, 15) then
        tl_l (tv_new M 6 4) fun M1 =>
        tv_b (C_X6_init (M.1.length) M1) fun _ M2 =>
        if tv_el M2 25 (Int.toNat (M.2 (p + 1) 14)) v1 ∧ tv_at M2 (M.1.length + 1) = (6, 4) ∧ M.1.length < 1000 then
          tl_l (tv_upd M2 (Int.toNat (M.2 (p + 1) 14)) (Int.toNat v1) ((M.1.length + 1 : Nat) : Int)) fun M3 =>
          C_X11_init_161 n p (tv_w (v1 + 1)) M3
        else none
      else none
set_option maxHeartbeats 4000000 in
set_option maxRecDepth 20000 in
theorem K_X11_init_161 {l : Launch} {E : tv_E} (hal : tv_al E) (d : Nat) : ∀ (n p : Nat) (v1 : Int) (M : tv_M), tv_sim l E (d + 3) mX11_init 161 [tv_R (p + 1), tv_I v1] [] M (C_X11_init_161 n p v1 M) := by
  intro n
  induction n with
  | zero => intros; exact tv_none
  | succ n ih =>
    intro p v1 M
    show tv_sim _ _ _ _ _ _ _ _ (C_X11_init_161 (n + 1) p v1 M)
    unfold C_X11_init_161
    refine ts_iload_n (i := 1) rfl rfl dX11_init_161 ?_
    refine ts_bipush rfl dX11_init_162 ?_
    refine ts_icmp_ge (tgt := 186) rfl dX11_init_164 ?_ ?_
    · exact ts_vret rfl dX11_init_186
    · refine ts_aload_n (i := 0) rfl rfl dX11_init_167 ?_
      refine ts_getR tl_X11_94 rfl dX11_init_168 ?_
      refine ts_iload_n (i := 1) rfl rfl dX11_init_171 ?_
      refine ts_new hal tw_c6 (by decide) tl_X11_92 tk_6 tw_ini_6 dX11_init_172 ?_
      refine tl_let (fun M1 => ?_)
      refine ts_dupR dX11_init_175 ?_
      refine ts_callIN (y2 := mX6_init) (as := []) (st := [tv_R (M.1.length + 1), tv_I v1, tv_R (Int.toNat (M.2 (p + 1) 14))]) (r := M.1.length) tw_X6_init tx_X6_init rfl rfl tl_X11_98 rfl rfl (tv_st8 rfl) dX11_init_176 (K_X6_init l hal _ (M.1.length) M1) (fun _ M2 _ => ?_)
      show tv_sim _ _ _ _ _ _ [tv_R (M.1.length + 1), tv_I v1, tv_R (Int.toNat (M.2 (p + 1) 14))] M2 _
      refine ts_aast (q := M.1.length) tw_c6 dX11_init_179 ?_
      refine tl_let (fun M3 => ?_)
      refine ts_iinc rfl rfl dX11_init_180 ?_
      show tv_sim _ _ _ _ _ [tv_R (p + 1), tv_I (tv_w (v1 + 1))] _ _ _
      refine ts_goto (tgt := 161) rfl dX11_init_183 ?_
      exact ih p (tv_w (v1 + 1)) M3
def C_X11_init (p : Nat) (M : tv_M) : Option (Int × tv_M) :=
  tl_l (tv_new M 3 13) fun M4 =>
  tv_b (C_X3_init (M.1.length) M4) fun _ M5 =>
  if tv_at M5 (p + 1) = (11, 15) ∧ M.1.length < 1000 then
    tl_l (tv_upd M5 (p + 1) 0 (((M.1.length + 1 : Nat) : Int))) fun M6 =>
    tl_l (tv_new M6 9 4) fun M7 =>
    tv_b (C_X9_init (M6.1.length) M7) fun _ M8 =>
    if tv_at M8 (p + 1) = (11, 15) ∧ M6.1.length < 1000 then
      tl_l (tv_upd M8 (p + 1) 1 (((M6.1.length + 1 : Nat) : Int))) fun M9 =>
      tl_l (tv_new M9 1 4) fun M10 =>
      tv_b (C_X1_init (M9.1.length) M10) fun _ M11 =>
      if tv_at M11 (p + 1) = (11, 15) ∧ M9.1.length < 1000 then
        tl_l (tv_upd M11 (p + 1) 2 (((M9.1.length + 1 : Nat) : Int))) fun M12 =>
        tl_l (tv_new M12 1 4) fun M13 =>
        tv_b (C_X1_init (M12.1.length) M13) fun _ M14 =>
        if tv_at M14 (p + 1) = (11, 15) ∧ M12.1.length < 1000 then
          tl_l (tv_upd M14 (p + 1) 3 (((M12.1.length + 1 : Nat) : Int))) fun M15 =>
          tl_l (tv_new M15 20 6) fun M16 =>
          if tv_at M16 (p + 1) = (11, 15) ∧ M15.1.length < 1000 then
            tl_l (tv_upd M16 (p + 1) 4 (((M15.1.length + 1 : Nat) : Int))) fun M17 =>
            tl_l (tv_new M17 7 1) fun M18 =>
            tv_b (C_X7_init (M17.1.length) M18) fun _ M19 =>
            if tv_at M19 (p + 1) = (11, 15) ∧ M17.1.length < 1000 then
              tl_l (tv_upd M19 (p + 1) 5 (((M17.1.length + 1 : Nat) : Int))) fun M20 =>
              tl_l (tv_new M20 20 150) fun M21 =>
              if tv_at M21 (p + 1) = (11, 15) ∧ M20.1.length < 1000 then
                tl_l (tv_upd M21 (p + 1) 6 (((M20.1.length + 1 : Nat) : Int))) fun M22 =>
                tl_l (tv_new M22 10 3) fun M23 =>
                tv_b (C_X10_init (M22.1.length) M23) fun _ M24 =>
                if tv_at M24 (p + 1) = (11, 15) ∧ M22.1.length < 1000 then
                  tl_l (tv_upd M24 (p + 1) 7 (((M22.1.length + 1 : Nat) : Int))) fun M25 =>
                  tl_l (tv_new M25 4 1) fun M26 =>
                  tv_b (C_X4_init (M25.1.length) M26) fun _ M27 =>
                  if tv_at M27 (p + 1) = (11, 15) ∧ M25.1.length < 1000 then
                    tl_l (tv_upd M27 (p + 1) 8 (((M25.1.length + 1 : Nat) : Int))) fun M28 =>
                    tl_l (tv_new M28 5 4) fun M29 =>
                    tv_b (C_X5_init (M28.1.length) M29) fun _ M30 =>
                    if tv_at M30 (p + 1) = (11, 15) ∧ M28.1.length < 1000 then
                      tl_l (tv_upd M30 (p + 1) 9 (((M28.1.length + 1 : Nat) : Int))) fun M31 =>
                      tl_l (tv_new M31 0 6) fun M32 =>
                      tv_b (C_X0_init (M31.1.length) M32) fun _ M33 =>
                      if tv_at M33 (p + 1) = (11, 15) ∧ M31.1.length < 1000 then
                        tl_l (tv_upd M33 (p + 1) 10 (((M31.1.length + 1 : Nat) : Int))) fun M34 =>
                        tl_l (tv_new M34 2 5) fun M35 =>
                        tv_b (C_X2_init (M34.1.length) M35) fun _ M36 =>
                        if tv_at M36 (p + 1) = (11, 15) ∧ M34.1.length < 1000 then
                          tl_l (tv_upd M36 (p + 1) 11 (((M34.1.length + 1 : Nat) : Int))) fun M37 =>
                          tl_l (tv_new M37 20 6) fun M38 =>
                          if tv_at M38 (p + 1) = (11, 15) ∧ M37.1.length < 1000 then
                            tl_l (tv_upd M38 (p + 1) 12 (((M37.1.length + 1 : Nat) : Int))) fun M39 =>
                            tl_l (tv_new M39 8 5) fun M40 =>
                            tv_b (C_X8_init (M39.1.length) M40) fun _ M41 =>
                            if tv_at M41 (p + 1) = (11, 15) ∧ M39.1.length < 1000 then
                              tl_l (tv_upd M41 (p + 1) 13 (((M39.1.length + 1 : Nat) : Int))) fun M42 =>
                              tl_l (tv_new M42 25 6) fun M43 =>
                              if tv_at M43 (p + 1) = (11, 15) ∧ M42.1.length < 1000 then
                                tl_l (tv_upd M43 (p + 1) 14 (((M42.1.length + 1 : Nat) : Int))) fun M44 =>
                                C_X11_init_161 100 p 0 M44
                              else none
                            else none
                          else none
                        else none
                      else none
                    else none
                  else none
                else none
              else none
            else none
          else none
        else none
      else none
    else none
  else none
set_option maxHeartbeats 4000000 in
set_option maxRecDepth 20000 in
theorem K_X11_init (l : Launch) {E : tv_E} (hal : tv_al E) (d : Nat) (p : Nat) (M : tv_M) : tv_msim l E (d + 3) mX11_init [tv_R (p + 1)] M (C_X11_init p M) := by
  refine tv_meet (as := [tv_R (p + 1)]) rfl (Nat.le_of_ble_eq_true rfl) ?_
  show tv_sim l E _ mX11_init 0 [tv_R (p + 1), tv_U] [] M _
  unfold C_X11_init
  refine ts_aload_n (i := 0) rfl rfl dX11_init_0 ?_
  refine ts_objInit tl_X11_3 tw_obi tw_obc rfl (tv_st8 rfl) dX11_init_1 ?_
  refine ts_aload_n (i := 0) rfl rfl dX11_init_4 ?_
  refine ts_new hal tw_c3 (by decide) tl_X11_9 tk_3 tw_ini_3 dX11_init_5 ?_
  refine tl_let (fun M4 => ?_)
  refine ts_dupR dX11_init_8 ?_
  refine ts_callIN (y2 := mX3_init) (as := []) (st := [tv_R (M.1.length + 1), tv_R (p + 1)]) (r := M.1.length) tw_X3_init tx_X3_init rfl rfl tl_X11_11 rfl rfl (tv_st8 rfl) dX11_init_9 (K_X3_init l hal _ (M.1.length) M4) (fun _ M5 _ => ?_)
  show tv_sim _ _ _ _ _ _ [tv_R (M.1.length + 1), tv_R (p + 1)] M5 _
  refine ts_putR (q := M.1.length) tf_X11_12 (fun _ => rfl) rfl rfl (fun _ => ⟨rfl, rfl⟩) dX11_init_12 ?_
  refine tl_let (fun M6 => ?_)
  refine ts_aload_n (i := 0) rfl rfl dX11_init_15 ?_
  refine ts_new hal tw_c9 (by decide) tl_X11_16 tk_9 tw_ini_9 dX11_init_16 ?_
  refine tl_let (fun M7 => ?_)
  refine ts_dupR dX11_init_19 ?_
  refine ts_callIN (y2 := mX9_init) (as := []) (st := [tv_R (M6.1.length + 1), tv_R (p + 1)]) (r := M6.1.length) tw_X9_init tx_X9_init rfl rfl tl_X11_18 rfl rfl (tv_st8 rfl) dX11_init_20 (K_X9_init l hal _ (M6.1.length) M7) (fun _ M8 _ => ?_)
  show tv_sim _ _ _ _ _ _ [tv_R (M6.1.length + 1), tv_R (p + 1)] M8 _
  refine ts_putR (q := M6.1.length) tf_X11_19 (fun _ => rfl) rfl rfl (fun _ => ⟨rfl, rfl⟩) dX11_init_23 ?_
  refine tl_let (fun M9 => ?_)
  refine ts_aload_n (i := 0) rfl rfl dX11_init_26 ?_
  refine ts_new hal tw_c1 (by decide) tl_X11_23 tk_1 tw_ini_1 dX11_init_27 ?_
  refine tl_let (fun M10 => ?_)
  refine ts_dupR dX11_init_30 ?_
  refine ts_callIN (y2 := mX1_init) (as := []) (st := [tv_R (M9.1.length + 1), tv_R (p + 1)]) (r := M9.1.length) tw_X1_init tx_X1_init rfl rfl tl_X11_25 rfl rfl (tv_st8 rfl) dX11_init_31 (K_X1_init l hal _ (M9.1.length) M10) (fun _ M11 _ => ?_)
  show tv_sim _ _ _ _ _ _ [tv_R (M9.1.length + 1), tv_R (p + 1)] M11 _
  refine ts_putR (q := M9.1.length) tf_X11_26 (fun _ => rfl) rfl rfl (fun _ => ⟨rfl, rfl⟩) dX11_init_34 ?_
  refine tl_let (fun M12 => ?_)
  refine ts_aload_n (i := 0) rfl rfl dX11_init_37 ?_
  refine ts_new hal tw_c1 (by decide) tl_X11_23 tk_1 tw_ini_1 dX11_init_38 ?_
  refine tl_let (fun M13 => ?_)
  refine ts_dupR dX11_init_41 ?_
  refine ts_callIN (y2 := mX1_init) (as := []) (st := [tv_R (M12.1.length + 1), tv_R (p + 1)]) (r := M12.1.length) tw_X1_init tx_X1_init rfl rfl tl_X11_25 rfl rfl (tv_st8 rfl) dX11_init_42 (K_X1_init l hal _ (M12.1.length) M13) (fun _ M14 _ => ?_)
  show tv_sim _ _ _ _ _ _ [tv_R (M12.1.length + 1), tv_R (p + 1)] M14 _
  refine ts_putR (q := M12.1.length) tf_X11_30 (fun _ => rfl) rfl rfl (fun _ => ⟨rfl, rfl⟩) dX11_init_45 ?_
  refine tl_let (fun M15 => ?_)
  refine ts_aload_n (i := 0) rfl rfl dX11_init_48 ?_
  refine ts_bipush rfl dX11_init_49 ?_
  refine ts_newa (n := 6) (c := 20) (q := 0) hal ta_0 (Or.inl ⟨rfl, rfl, rfl⟩) rfl (by decide) dX11_init_51 ?_
  refine tl_let (fun M16 => ?_)
  refine ts_putR (q := M15.1.length) tf_X11_33 (fun _ => rfl) rfl rfl (fun _ => ⟨rfl, rfl⟩) dX11_init_53 ?_
  refine tl_let (fun M17 => ?_)
  refine ts_aload_n (i := 0) rfl rfl dX11_init_56 ?_
  refine ts_new hal tw_c7 (by decide) tl_X11_37 tk_7 tw_ini_7 dX11_init_57 ?_
  refine tl_let (fun M18 => ?_)
  refine ts_dupR dX11_init_60 ?_
  refine ts_callIN (y2 := mX7_init) (as := []) (st := [tv_R (M17.1.length + 1), tv_R (p + 1)]) (r := M17.1.length) tw_X7_init tx_X7_init rfl rfl tl_X11_39 rfl rfl (tv_st8 rfl) dX11_init_61 (K_X7_init l hal _ (M17.1.length) M18) (fun _ M19 _ => ?_)
  show tv_sim _ _ _ _ _ _ [tv_R (M17.1.length + 1), tv_R (p + 1)] M19 _
  refine ts_putR (q := M17.1.length) tf_X11_40 (fun _ => rfl) rfl rfl (fun _ => ⟨rfl, rfl⟩) dX11_init_64 ?_
  refine tl_let (fun M20 => ?_)
  refine ts_aload_n (i := 0) rfl rfl dX11_init_67 ?_
  refine ts_sipush rfl dX11_init_68 ?_
  refine ts_newa (n := 150) (c := 20) (q := 0) hal ta_0 (Or.inl ⟨rfl, rfl, rfl⟩) rfl (by decide) dX11_init_71 ?_
  refine tl_let (fun M21 => ?_)
  refine ts_putR (q := M20.1.length) tf_X11_44 (fun _ => rfl) rfl rfl (fun _ => ⟨rfl, rfl⟩) dX11_init_73 ?_
  refine tl_let (fun M22 => ?_)
  refine ts_aload_n (i := 0) rfl rfl dX11_init_76 ?_
  refine ts_new hal tw_c10 (by decide) tl_X11_47 tk_10 tw_ini_10 dX11_init_77 ?_
  refine tl_let (fun M23 => ?_)
  refine ts_dupR dX11_init_80 ?_
  refine ts_callIN (y2 := mX10_init) (as := []) (st := [tv_R (M22.1.length + 1), tv_R (p + 1)]) (r := M22.1.length) tw_X10_init tx_X10_init rfl rfl tl_X11_49 rfl rfl (tv_st8 rfl) dX11_init_81 (K_X10_init l hal _ (M22.1.length) M23) (fun _ M24 _ => ?_)
  show tv_sim _ _ _ _ _ _ [tv_R (M22.1.length + 1), tv_R (p + 1)] M24 _
  refine ts_putR (q := M22.1.length) tf_X11_50 (fun _ => rfl) rfl rfl (fun _ => ⟨rfl, rfl⟩) dX11_init_84 ?_
  refine tl_let (fun M25 => ?_)
  refine ts_aload_n (i := 0) rfl rfl dX11_init_87 ?_
  refine ts_new hal tw_c4 (by decide) tl_X11_54 tk_4 tw_ini_4 dX11_init_88 ?_
  refine tl_let (fun M26 => ?_)
  refine ts_dupR dX11_init_91 ?_
  refine ts_callIN (y2 := mX4_init) (as := []) (st := [tv_R (M25.1.length + 1), tv_R (p + 1)]) (r := M25.1.length) tw_X4_init tx_X4_init rfl rfl tl_X11_56 rfl rfl (tv_st8 rfl) dX11_init_92 (K_X4_init l hal _ (M25.1.length) M26) (fun _ M27 _ => ?_)
  show tv_sim _ _ _ _ _ _ [tv_R (M25.1.length + 1), tv_R (p + 1)] M27 _
  refine ts_putR (q := M25.1.length) tf_X11_57 (fun _ => rfl) rfl rfl (fun _ => ⟨rfl, rfl⟩) dX11_init_95 ?_
  refine tl_let (fun M28 => ?_)
  refine ts_aload_n (i := 0) rfl rfl dX11_init_98 ?_
  refine ts_new hal tw_c5 (by decide) tl_X11_61 tk_5 tw_ini_5 dX11_init_99 ?_
  refine tl_let (fun M29 => ?_)
  refine ts_dupR dX11_init_102 ?_
  refine ts_callIN (y2 := mX5_init) (as := []) (st := [tv_R (M28.1.length + 1), tv_R (p + 1)]) (r := M28.1.length) tw_X5_init tx_X5_init rfl rfl tl_X11_63 rfl rfl (tv_st8 rfl) dX11_init_103 (K_X5_init l hal _ (M28.1.length) M29) (fun _ M30 _ => ?_)
  show tv_sim _ _ _ _ _ _ [tv_R (M28.1.length + 1), tv_R (p + 1)] M30 _
  refine ts_putR (q := M28.1.length) tf_X11_64 (fun _ => rfl) rfl rfl (fun _ => ⟨rfl, rfl⟩) dX11_init_106 ?_
  refine tl_let (fun M31 => ?_)
  refine ts_aload_n (i := 0) rfl rfl dX11_init_109 ?_
  refine ts_new hal tw_c0 (by decide) tl_X11_68 tk_0 tw_ini_0 dX11_init_110 ?_
  refine tl_let (fun M32 => ?_)
  refine ts_dupR dX11_init_113 ?_
  refine ts_callIN (y2 := mX0_init) (as := []) (st := [tv_R (M31.1.length + 1), tv_R (p + 1)]) (r := M31.1.length) tw_X0_init tx_X0_init rfl rfl tl_X11_70 rfl rfl (tv_st8 rfl) dX11_init_114 (K_X0_init l hal _ (M31.1.length) M32) (fun _ M33 _ => ?_)
  show tv_sim _ _ _ _ _ _ [tv_R (M31.1.length + 1), tv_R (p + 1)] M33 _
  refine ts_putR (q := M31.1.length) tf_X11_71 (fun _ => rfl) rfl rfl (fun _ => ⟨rfl, rfl⟩) dX11_init_117 ?_
  refine tl_let (fun M34 => ?_)
  refine ts_aload_n (i := 0) rfl rfl dX11_init_120 ?_
  refine ts_new hal tw_c2 (by decide) tl_X11_75 tk_2 tw_ini_2 dX11_init_121 ?_
  refine tl_let (fun M35 => ?_)
  refine ts_dupR dX11_init_124 ?_
  refine ts_callIN (y2 := mX2_init) (as := []) (st := [tv_R (M34.1.length + 1), tv_R (p + 1)]) (r := M34.1.length) tw_X2_init tx_X2_init rfl rfl tl_X11_77 rfl rfl (tv_st8 rfl) dX11_init_125 (K_X2_init l hal _ (M34.1.length) M35) (fun _ M36 _ => ?_)
  show tv_sim _ _ _ _ _ _ [tv_R (M34.1.length + 1), tv_R (p + 1)] M36 _
  refine ts_putR (q := M34.1.length) tf_X11_78 (fun _ => rfl) rfl rfl (fun _ => ⟨rfl, rfl⟩) dX11_init_128 ?_
  refine tl_let (fun M37 => ?_)
  refine ts_aload_n (i := 0) rfl rfl dX11_init_131 ?_
  refine ts_bipush rfl dX11_init_132 ?_
  refine ts_newa (n := 6) (c := 20) (q := 0) hal ta_0 (Or.inl ⟨rfl, rfl, rfl⟩) rfl (by decide) dX11_init_134 ?_
  refine tl_let (fun M38 => ?_)
  refine ts_putR (q := M37.1.length) tf_X11_82 (fun _ => rfl) rfl rfl (fun _ => ⟨rfl, rfl⟩) dX11_init_136 ?_
  refine tl_let (fun M39 => ?_)
  refine ts_aload_n (i := 0) rfl rfl dX11_init_139 ?_
  refine ts_new hal tw_c8 (by decide) tl_X11_85 tk_8 tw_ini_8 dX11_init_140 ?_
  refine tl_let (fun M40 => ?_)
  refine ts_dupR dX11_init_143 ?_
  refine ts_callIN (y2 := mX8_init) (as := []) (st := [tv_R (M39.1.length + 1), tv_R (p + 1)]) (r := M39.1.length) tw_X8_init tx_X8_init rfl rfl tl_X11_87 rfl rfl (tv_st8 rfl) dX11_init_144 (K_X8_init l hal _ (M39.1.length) M40) (fun _ M41 _ => ?_)
  show tv_sim _ _ _ _ _ _ [tv_R (M39.1.length + 1), tv_R (p + 1)] M41 _
  refine ts_putR (q := M39.1.length) tf_X11_88 (fun _ => rfl) rfl rfl (fun _ => ⟨rfl, rfl⟩) dX11_init_147 ?_
  refine tl_let (fun M42 => ?_)
  refine ts_aload_n (i := 0) rfl rfl dX11_init_150 ?_
  refine ts_bipush rfl dX11_init_151 ?_
  refine ts_newq (n := 6) hal tl_X11_92 rfl (by decide) dX11_init_153 ?_
  refine tl_let (fun M43 => ?_)
  refine ts_putR (q := M42.1.length) tf_X11_94 (fun _ => rfl) rfl rfl (fun _ => ⟨rfl, rfl⟩) dX11_init_156 ?_
  refine tl_let (fun M44 => ?_)
  refine ts_iconst rfl dX11_init_159 ?_
  refine ts_istore_n rfl (Nat.le_of_ble_eq_true rfl) rfl dX11_init_160 ?_
  show tv_sim _ _ _ _ _ [tv_R (p + 1), tv_I 0] _ _ _
  exact K_X11_init_161 hal d 100 p 0 M44
def C_X12_init (p : Nat) (M : tv_M) : Option (Int × tv_M) :=
  tl_l (tv_new M 20 6) fun M1 =>
  if tv_at M1 (p + 1) = (12, 58) ∧ M.1.length < 1000 then
    tl_l (tv_upd M1 (p + 1) 2 (((M.1.length + 1 : Nat) : Int))) fun M2 =>
    tl_l (tv_new M2 20 6) fun M3 =>
    if tv_at M3 (p + 1) = (12, 58) ∧ M2.1.length < 1000 then
      tl_l (tv_upd M3 (p + 1) 4 (((M2.1.length + 1 : Nat) : Int))) fun M4 =>
      tl_l (tv_new M4 20 30) fun M5 =>
      if tv_at M5 (p + 1) = (12, 58) ∧ M4.1.length < 1000 then
        tl_l (tv_upd M5 (p + 1) 5 (((M4.1.length + 1 : Nat) : Int))) fun M6 =>
        tl_l (tv_new M6 20 10) fun M7 =>
        if tv_at M7 (p + 1) = (12, 58) ∧ M6.1.length < 1000 then
          tl_l (tv_upd M7 (p + 1) 7 (((M6.1.length + 1 : Nat) : Int))) fun M8 =>
          tl_l (tv_new M8 20 10) fun M9 =>
          if tv_at M9 (p + 1) = (12, 58) ∧ M8.1.length < 1000 then
            tl_l (tv_upd M9 (p + 1) 8 (((M8.1.length + 1 : Nat) : Int))) fun M10 =>
            tl_l (tv_new M10 20 10) fun M11 =>
            if tv_at M11 (p + 1) = (12, 58) ∧ M10.1.length < 1000 then
              tl_l (tv_upd M11 (p + 1) 9 (((M10.1.length + 1 : Nat) : Int))) fun M12 =>
              tl_l (tv_new M12 20 4) fun M13 =>
              if tv_el M13 20 (M12.1.length + 1) 0 then
                tl_l (tv_upd M13 (M12.1.length + 1) (Int.toNat 0) 0) fun M14 =>
                if tv_el M14 20 (M12.1.length + 1) 1 then
                  tl_l (tv_upd M14 (M12.1.length + 1) (Int.toNat 1) 10) fun M15 =>
                  if tv_el M15 20 (M12.1.length + 1) 2 then
                    tl_l (tv_upd M15 (M12.1.length + 1) (Int.toNat 2) 6) fun M16 =>
                    if tv_el M16 20 (M12.1.length + 1) 3 then
                      tl_l (tv_upd M16 (M12.1.length + 1) (Int.toNat 3) 20) fun M17 =>
                      if tv_at M17 (p + 1) = (12, 58) ∧ M12.1.length < 1000 then
                        tl_l (tv_upd M17 (p + 1) 10 (((M12.1.length + 1 : Nat) : Int))) fun M18 =>
                        tl_l (tv_new M18 20 40) fun M19 =>
                        if tv_at M19 (p + 1) = (12, 58) ∧ M18.1.length < 1000 then
                          tl_l (tv_upd M19 (p + 1) 13 (((M18.1.length + 1 : Nat) : Int))) fun M20 =>
                          tl_l (tv_new M20 20 40) fun M21 =>
                          if tv_at M21 (p + 1) = (12, 58) ∧ M20.1.length < 1000 then
                            tl_l (tv_upd M21 (p + 1) 14 (((M20.1.length + 1 : Nat) : Int))) fun M22 =>
                            tl_l (tv_new M22 20 40) fun M23 =>
                            if tv_at M23 (p + 1) = (12, 58) ∧ M22.1.length < 1000 then
                              tl_l (tv_upd M23 (p + 1) 15 (((M22.1.length + 1 : Nat) : Int))) fun M24 =>
                              tl_l (tv_new M24 20 40) fun M25 =>
                              if tv_at M25 (p + 1) = (12, 58) ∧ M24.1.length < 1000 then
                                tl_l (tv_upd M25 (p + 1) 16 (((M24.1.length + 1 : Nat) : Int))) fun M26 =>
                                tl_l (tv_new M26 21 120) fun M27 =>
                                if tv_at M27 (p + 1) = (12, 58) ∧ M26.1.length < 1000 then
                                  tl_l (tv_upd M27 (p + 1) 17 (((M26.1.length + 1 : Nat) : Int))) fun M28 =>
                                  tl_l (tv_new M28 21 260) fun M29 =>
                                  if tv_at M29 (p + 1) = (12, 58) ∧ M28.1.length < 1000 then
                                    tl_l (tv_upd M29 (p + 1) 23 (((M28.1.length + 1 : Nat) : Int))) fun M30 =>
                                    tl_l (tv_new M30 20 260) fun M31 =>
                                    if tv_at M31 (p + 1) = (12, 58) ∧ M30.1.length < 1000 then
                                      tl_l (tv_upd M31 (p + 1) 24 (((M30.1.length + 1 : Nat) : Int))) fun M32 =>
                                      tl_l (tv_new M32 20 2) fun M33 =>
                                      if tv_at M33 (p + 1) = (12, 58) ∧ M32.1.length < 1000 then
                                        tl_l (tv_upd M33 (p + 1) 25 (((M32.1.length + 1 : Nat) : Int))) fun M34 =>
                                        tl_l (tv_new M34 22 122) fun M35 =>
                                        if tv_at M35 (p + 1) = (12, 58) ∧ M34.1.length < 1000 then
                                          tl_l (tv_upd M35 (p + 1) 26 (((M34.1.length + 1 : Nat) : Int))) fun M36 =>
                                          tl_l (tv_new M36 22 122) fun M37 =>
                                          if tv_at M37 (p + 1) = (12, 58) ∧ M36.1.length < 1000 then
                                            tl_l (tv_upd M37 (p + 1) 27 (((M36.1.length + 1 : Nat) : Int))) fun M38 =>
                                            tl_l (tv_new M38 20 6) fun M39 =>
                                            if tv_at M39 (p + 1) = (12, 58) ∧ M38.1.length < 1000 then
                                              tl_l (tv_upd M39 (p + 1) 28 (((M38.1.length + 1 : Nat) : Int))) fun M40 =>
                                              tl_l (tv_new M40 20 130) fun M41 =>
                                              if tv_at M41 (p + 1) = (12, 58) ∧ M40.1.length < 1000 then
                                                tl_l (tv_upd M41 (p + 1) 29 (((M40.1.length + 1 : Nat) : Int))) fun M42 =>
                                                tl_l (tv_new M42 20 30) fun M43 =>
                                                if tv_at M43 (p + 1) = (12, 58) ∧ M42.1.length < 1000 then
                                                  tl_l (tv_upd M43 (p + 1) 31 (((M42.1.length + 1 : Nat) : Int))) fun M44 =>
                                                  tl_l (tv_new M44 20 6) fun M45 =>
                                                  if tv_at M45 (p + 1) = (12, 58) ∧ M44.1.length < 1000 then
                                                    tl_l (tv_upd M45 (p + 1) 32 (((M44.1.length + 1 : Nat) : Int))) fun M46 =>
                                                    tl_l (tv_new M46 20 20) fun M47 =>
                                                    if tv_at M47 (p + 1) = (12, 58) ∧ M46.1.length < 1000 then
                                                      tl_l (tv_upd M47 (p + 1) 33 (((M46.1.length + 1 : Nat) : Int))) fun M48 =>
                                                      tl_l (tv_new M48 20 20) fun M49 =>
                                                      if tv_at M49 (p + 1) = (12, 58) ∧ M48.1.length < 1000 then
                                                        tl_l (tv_upd M49 (p + 1) 34 (((M48.1.length + 1 : Nat) : Int))) fun M50 =>
                                                        tl_l (tv_new M50 20 704) fun M51 =>
                                                        if tv_at M51 (p + 1) = (12, 58) ∧ M50.1.length < 1000 then
                                                          tl_l (tv_upd M51 (p + 1) 37 (((M50.1.length + 1 : Nat) : Int))) fun M52 =>
                                                          tl_l (tv_new M52 20 100) fun M53 =>
                                                          if tv_at M53 (p + 1) = (12, 58) ∧ M52.1.length < 1000 then
                                                            tl_l (tv_upd M53 (p + 1) 38 (((M52.1.length + 1 : Nat) : Int))) fun M54 =>
                                                            tl_l (tv_new M54 20 100) fun M55 =>
                                                            if tv_at M55 (p + 1) = (12, 58) ∧ M54.1.length < 1000 then
                                                              tl_l (tv_upd M55 (p + 1) 39 (((M54.1.length + 1 : Nat) : Int))) fun M56 =>
                                                              tl_l (tv_new M56 20 100) fun M57 =>
                                                              if tv_at M57 (p + 1) = (12, 58) ∧ M56.1.length < 1000 then
                                                                tl_l (tv_upd M57 (p + 1) 40 (((M56.1.length + 1 : Nat) : Int))) fun M58 =>
                                                                tl_l (tv_new M58 23 100) fun M59 =>
                                                                if tv_at M59 (p + 1) = (12, 58) ∧ M58.1.length < 1000 then
                                                                  tl_l (tv_upd M59 (p + 1) 41 (((M58.1.length + 1 : Nat) : Int))) fun M60 =>
                                                                  tl_l (tv_new M60 23 100) fun M61 =>
                                                                  if tv_at M61 (p + 1) = (12, 58) ∧ M60.1.length < 1000 then
                                                                    tl_l (tv_upd M61 (p + 1) 42 (((M60.1.length + 1 : Nat) : Int))) fun M62 =>
                                                                    tl_l (tv_new M62 20 6) fun M63 =>
                                                                    if tv_at M63 (p + 1) = (12, 58) ∧ M62.1.length < 1000 then
                                                                      tl_l (tv_upd M63 (p + 1) 43 (((M62.1.length + 1 : Nat) : Int))) fun M64 =>
                                                                      tl_l (tv_new M64 20 6) fun M65 =>
                                                                      if tv_at M65 (p + 1) = (12, 58) ∧ M64.1.length < 1000 then
                                                                        tl_l (tv_upd M65 (p + 1) 47 (((M64.1.length + 1 : Nat) : Int))) fun M66 =>
                                                                        tl_l (tv_new M66 20 30) fun M67 =>
                                                                        if tv_at M67 (p + 1) = (12, 58) ∧ M66.1.length < 1000 then
                                                                          tl_l (tv_upd M67 (p + 1) 48 (((M66.1.length + 1 : Nat) : Int))) fun M68 =>
                                                                          tl_l (tv_new M68 20 6) fun M69 =>
                                                                          if tv_at M69 (p + 1) = (12, 58) ∧ M68.1.length < 1000 then
                                                                            tl_l (tv_upd M69 (p + 1) 49 (((M68.1.length + 1 : Nat) : Int))) fun M70 =>
                                                                            tl_l (tv_new M70 20 50) fun M71 =>
                                                                            if tv_at M71 (p + 1) = (12, 58) ∧ M70.1.length < 1000 then
                                                                              tl_l (tv_upd M71 (p + 1) 51 (((M70.1.length + 1 : Nat) : Int))) fun M72 =>
                                                                              tl_l (tv_new M72 20 24) fun M73 =>
                                                                              if tv_at M73 (p + 1) = (12, 58) ∧ M72.1.length < 1000 then
                                                                                tl_l (tv_upd M73 (p + 1) 53 (((M72.1.length + 1 : Nat) : Int))) fun M74 =>
                                                                                tl_l (tv_new M74 20 6) fun M75 =>
                                                                                if tv_el M75 20 (M74.1.length + 1) 0 then
                                                                                  tl_l (tv_upd M75 (M74.1.length + 1) (Int.toNat 0) ((-1))) fun M76 =>
                                                                                  if tv_el M76 20 (M74.1.length + 1) 1 then
                                                                                    tl_l (tv_upd M76 (M74.1.length + 1) (Int.toNat 1) ((-1))) fun M77 =>
                                                                                    if tv_el M77 20 (M74.1.length + 1) 2 then
                                                                                      tl_l (tv_upd M77 (M74.1.length + 1) (Int.toNat 2) ((-1))) fun M78 =>
                                                                                      if tv_el M78 20 (M74.1.length + 1) 3 then
                                                                                        tl_l (tv_upd M78 (M74.1.length + 1) (Int.toNat 3) ((-1))) fun M79 =>
                                                                                        if tv_el M79 20 (M74.1.length + 1) 4 then
                                                                                          tl_l (tv_upd M79 (M74.1.length + 1) (Int.toNat 4) ((-1))) fun M80 =>
                                                                                          if tv_el M80 20 (M74.1.length + 1) 5 then
                                                                                            tl_l (tv_upd M80 (M74.1.length + 1) (Int.toNat 5) ((-1))) fun M81 =>
                                                                                            if tv_at M81 (p + 1) = (12, 58) ∧ M74.1.length < 1000 then
                                                                                              tl_l (tv_upd M81 (p + 1) 54 (((M74.1.length + 1 : Nat) : Int))) fun M82 =>
                                                                                              tl_l (tv_new M82 20 6) fun M83 =>
                                                                                              if tv_at M83 (p + 1) = (12, 58) ∧ M82.1.length < 1000 then
                                                                                                tl_l (tv_upd M83 (p + 1) 55 (((M82.1.length + 1 : Nat) : Int))) fun M84 =>
                                                                                                tl_l (tv_new M84 24 360) fun M85 =>
                                                                                                if tv_at M85 (p + 1) = (12, 58) ∧ M84.1.length < 1000 then
                                                                                                  tl_l (tv_upd M85 (p + 1) 56 (((M84.1.length + 1 : Nat) : Int))) fun M86 =>
                                                                                                  tl_l (tv_new M86 24 60) fun M87 =>
                                                                                                  if tv_at M87 (p + 1) = (12, 58) ∧ M86.1.length < 1000 then
                                                                                                    tl_l (tv_upd M87 (p + 1) 57 (((M86.1.length + 1 : Nat) : Int))) fun M88 =>
                                                                                                    some (0, M88)
                                                                                                  else none
                                                                                                else none
                                                                                              else none
                                                                                            else none
                                                                                          else none
                                                                                        else none
                                                                                      else none
                                                                                    else none
                                                                                  else none
                                                                                else none
                                                                              else none
                                                                            else none
                                                                          else none
                                                                        else none
                                                                      else none
                                                                    else none
                                                                  else none
                                                                else none
                                                              else none
                                                            else none
                                                          else none
                                                        else none
                                                      else none
                                                    else none
                                                  else none
                                                else none
                                              else none
                                            else none
                                          else none
                                        else none
                                      else none
                                    else none
                                  else none
                                else none
                              else none
                            else none
                          else none
                        else none
                      else none
                    else none
                  else none
                else none
              else none
            else none
          else none
        else none
      else none
    else none
  else none
set_option maxHeartbeats 4000000 in
set_option maxRecDepth 20000 in
theorem K_X12_init (l : Launch) {E : tv_E} (hal : tv_al E) (d : Nat) (p : Nat) (M : tv_M) : tv_msim l E (d + 1) mX12_init [tv_R (p + 1)] M (C_X12_init p M) := by
  refine tv_meet (as := [tv_R (p + 1)]) rfl (Nat.le_of_ble_eq_true rfl) ?_
  show tv_sim l E _ mX12_init 0 [tv_R (p + 1)] [] M _
  unfold C_X12_init
  refine ts_aload_n (i := 0) rfl rfl dX12_init_0 ?_
  refine ts_objInit tl_X12_1 tw_obi tw_obc rfl (tv_st8 rfl) dX12_init_1 ?_
  refine ts_aload_n (i := 0) rfl rfl dX12_init_4 ?_
  refine ts_bipush rfl dX12_init_5 ?_
  refine ts_newa (n := 6) (c := 20) (q := 0) hal ta_0 (Or.inl ⟨rfl, rfl, rfl⟩) rfl (by decide) dX12_init_7 ?_
  refine tl_let (fun M1 => ?_)
  refine ts_putR (q := M.1.length) tf_X12_7 (fun _ => rfl) rfl rfl (fun _ => ⟨rfl, rfl⟩) dX12_init_9 ?_
  refine tl_let (fun M2 => ?_)
  refine ts_aload_n (i := 0) rfl rfl dX12_init_12 ?_
  refine ts_bipush rfl dX12_init_13 ?_
  refine ts_newa (n := 6) (c := 20) (q := 0) hal ta_0 (Or.inl ⟨rfl, rfl, rfl⟩) rfl (by decide) dX12_init_15 ?_
  refine tl_let (fun M3 => ?_)
  refine ts_putR (q := M2.1.length) tf_X12_13 (fun _ => rfl) rfl rfl (fun _ => ⟨rfl, rfl⟩) dX12_init_17 ?_
  refine tl_let (fun M4 => ?_)
  refine ts_aload_n (i := 0) rfl rfl dX12_init_20 ?_
  refine ts_bipush rfl dX12_init_21 ?_
  refine ts_newa (n := 30) (c := 20) (q := 0) hal ta_0 (Or.inl ⟨rfl, rfl, rfl⟩) rfl (by decide) dX12_init_23 ?_
  refine tl_let (fun M5 => ?_)
  refine ts_putR (q := M4.1.length) tf_X12_16 (fun _ => rfl) rfl rfl (fun _ => ⟨rfl, rfl⟩) dX12_init_25 ?_
  refine tl_let (fun M6 => ?_)
  refine ts_aload_n (i := 0) rfl rfl dX12_init_28 ?_
  refine ts_bipush rfl dX12_init_29 ?_
  refine ts_newa (n := 10) (c := 20) (q := 0) hal ta_0 (Or.inl ⟨rfl, rfl, rfl⟩) rfl (by decide) dX12_init_31 ?_
  refine tl_let (fun M7 => ?_)
  refine ts_putR (q := M6.1.length) tf_X12_19 (fun _ => rfl) rfl rfl (fun _ => ⟨rfl, rfl⟩) dX12_init_33 ?_
  refine tl_let (fun M8 => ?_)
  refine ts_aload_n (i := 0) rfl rfl dX12_init_36 ?_
  refine ts_bipush rfl dX12_init_37 ?_
  refine ts_newa (n := 10) (c := 20) (q := 0) hal ta_0 (Or.inl ⟨rfl, rfl, rfl⟩) rfl (by decide) dX12_init_39 ?_
  refine tl_let (fun M9 => ?_)
  refine ts_putR (q := M8.1.length) tf_X12_22 (fun _ => rfl) rfl rfl (fun _ => ⟨rfl, rfl⟩) dX12_init_41 ?_
  refine tl_let (fun M10 => ?_)
  refine ts_aload_n (i := 0) rfl rfl dX12_init_44 ?_
  refine ts_bipush rfl dX12_init_45 ?_
  refine ts_newa (n := 10) (c := 20) (q := 0) hal ta_0 (Or.inl ⟨rfl, rfl, rfl⟩) rfl (by decide) dX12_init_47 ?_
  refine tl_let (fun M11 => ?_)
  refine ts_putR (q := M10.1.length) tf_X12_25 (fun _ => rfl) rfl rfl (fun _ => ⟨rfl, rfl⟩) dX12_init_49 ?_
  refine tl_let (fun M12 => ?_)
  refine ts_aload_n (i := 0) rfl rfl dX12_init_52 ?_
  refine ts_iconst rfl dX12_init_53 ?_
  refine ts_newa (n := 4) (c := 20) (q := 0) hal ta_0 (Or.inl ⟨rfl, rfl, rfl⟩) rfl (by decide) dX12_init_54 ?_
  refine tl_let (fun M13 => ?_)
  refine ts_dupR dX12_init_56 ?_
  refine ts_iconst rfl dX12_init_57 ?_
  refine ts_iconst rfl dX12_init_58 ?_
  refine ts_iast dX12_init_59 ?_
  refine tl_let (fun M14 => ?_)
  refine ts_dupR dX12_init_60 ?_
  refine ts_iconst rfl dX12_init_61 ?_
  refine ts_bipush rfl dX12_init_62 ?_
  refine ts_iast dX12_init_64 ?_
  refine tl_let (fun M15 => ?_)
  refine ts_dupR dX12_init_65 ?_
  refine ts_iconst rfl dX12_init_66 ?_
  refine ts_bipush rfl dX12_init_67 ?_
  refine ts_iast dX12_init_69 ?_
  refine tl_let (fun M16 => ?_)
  refine ts_dupR dX12_init_70 ?_
  refine ts_iconst rfl dX12_init_71 ?_
  refine ts_bipush rfl dX12_init_72 ?_
  refine ts_iast dX12_init_74 ?_
  refine tl_let (fun M17 => ?_)
  refine ts_putR (q := M12.1.length) tf_X12_28 (fun _ => rfl) rfl rfl (fun _ => ⟨rfl, rfl⟩) dX12_init_75 ?_
  refine tl_let (fun M18 => ?_)
  refine ts_aload_n (i := 0) rfl rfl dX12_init_78 ?_
  refine ts_bipush rfl dX12_init_79 ?_
  refine ts_newa (n := 40) (c := 20) (q := 0) hal ta_0 (Or.inl ⟨rfl, rfl, rfl⟩) rfl (by decide) dX12_init_81 ?_
  refine tl_let (fun M19 => ?_)
  refine ts_putR (q := M18.1.length) tf_X12_31 (fun _ => rfl) rfl rfl (fun _ => ⟨rfl, rfl⟩) dX12_init_83 ?_
  refine tl_let (fun M20 => ?_)
  refine ts_aload_n (i := 0) rfl rfl dX12_init_86 ?_
  refine ts_bipush rfl dX12_init_87 ?_
  refine ts_newa (n := 40) (c := 20) (q := 0) hal ta_0 (Or.inl ⟨rfl, rfl, rfl⟩) rfl (by decide) dX12_init_89 ?_
  refine tl_let (fun M21 => ?_)
  refine ts_putR (q := M20.1.length) tf_X12_34 (fun _ => rfl) rfl rfl (fun _ => ⟨rfl, rfl⟩) dX12_init_91 ?_
  refine tl_let (fun M22 => ?_)
  refine ts_aload_n (i := 0) rfl rfl dX12_init_94 ?_
  refine ts_bipush rfl dX12_init_95 ?_
  refine ts_newa (n := 40) (c := 20) (q := 0) hal ta_0 (Or.inl ⟨rfl, rfl, rfl⟩) rfl (by decide) dX12_init_97 ?_
  refine tl_let (fun M23 => ?_)
  refine ts_putR (q := M22.1.length) tf_X12_37 (fun _ => rfl) rfl rfl (fun _ => ⟨rfl, rfl⟩) dX12_init_99 ?_
  refine tl_let (fun M24 => ?_)
  refine ts_aload_n (i := 0) rfl rfl dX12_init_102 ?_
  refine ts_bipush rfl dX12_init_103 ?_
  refine ts_newa (n := 40) (c := 20) (q := 0) hal ta_0 (Or.inl ⟨rfl, rfl, rfl⟩) rfl (by decide) dX12_init_105 ?_
  refine tl_let (fun M25 => ?_)
  refine ts_putR (q := M24.1.length) tf_X12_40 (fun _ => rfl) rfl rfl (fun _ => ⟨rfl, rfl⟩) dX12_init_107 ?_
  refine tl_let (fun M26 => ?_)
  refine ts_aload_n (i := 0) rfl rfl dX12_init_110 ?_
  refine ts_bipush rfl dX12_init_111 ?_
  refine ts_newa (n := 120) (c := 21) (q := 1) hal ta_1 (Or.inr (Or.inl ⟨rfl, rfl, rfl⟩)) rfl (by decide) dX12_init_113 ?_
  refine tl_let (fun M27 => ?_)
  refine ts_putR (q := M26.1.length) tf_X12_43 (fun _ => rfl) rfl rfl (fun _ => ⟨rfl, rfl⟩) dX12_init_115 ?_
  refine tl_let (fun M28 => ?_)
  refine ts_aload_n (i := 0) rfl rfl dX12_init_118 ?_
  refine ts_sipush rfl dX12_init_119 ?_
  refine ts_newa (n := 260) (c := 21) (q := 1) hal ta_1 (Or.inr (Or.inl ⟨rfl, rfl, rfl⟩)) rfl (by decide) dX12_init_122 ?_
  refine tl_let (fun M29 => ?_)
  refine ts_putR (q := M28.1.length) tf_X12_47 (fun _ => rfl) rfl rfl (fun _ => ⟨rfl, rfl⟩) dX12_init_124 ?_
  refine tl_let (fun M30 => ?_)
  refine ts_aload_n (i := 0) rfl rfl dX12_init_127 ?_
  refine ts_sipush rfl dX12_init_128 ?_
  refine ts_newa (n := 260) (c := 20) (q := 0) hal ta_0 (Or.inl ⟨rfl, rfl, rfl⟩) rfl (by decide) dX12_init_131 ?_
  refine tl_let (fun M31 => ?_)
  refine ts_putR (q := M30.1.length) tf_X12_50 (fun _ => rfl) rfl rfl (fun _ => ⟨rfl, rfl⟩) dX12_init_133 ?_
  refine tl_let (fun M32 => ?_)
  refine ts_aload_n (i := 0) rfl rfl dX12_init_136 ?_
  refine ts_iconst rfl dX12_init_137 ?_
  refine ts_newa (n := 2) (c := 20) (q := 0) hal ta_0 (Or.inl ⟨rfl, rfl, rfl⟩) rfl (by decide) dX12_init_138 ?_
  refine tl_let (fun M33 => ?_)
  refine ts_putR (q := M32.1.length) tf_X12_53 (fun _ => rfl) rfl rfl (fun _ => ⟨rfl, rfl⟩) dX12_init_140 ?_
  refine tl_let (fun M34 => ?_)
  refine ts_aload_n (i := 0) rfl rfl dX12_init_143 ?_
  refine ts_bipush rfl dX12_init_144 ?_
  refine ts_newa (n := 122) (c := 22) (q := 2) hal ta_2 (Or.inr (Or.inr (Or.inl ⟨rfl, rfl, rfl⟩))) rfl (by decide) dX12_init_146 ?_
  refine tl_let (fun M35 => ?_)
  refine ts_putR (q := M34.1.length) tf_X12_56 (fun _ => rfl) rfl rfl (fun _ => ⟨rfl, rfl⟩) dX12_init_148 ?_
  refine tl_let (fun M36 => ?_)
  refine ts_aload_n (i := 0) rfl rfl dX12_init_151 ?_
  refine ts_bipush rfl dX12_init_152 ?_
  refine ts_newa (n := 122) (c := 22) (q := 2) hal ta_2 (Or.inr (Or.inr (Or.inl ⟨rfl, rfl, rfl⟩))) rfl (by decide) dX12_init_154 ?_
  refine tl_let (fun M37 => ?_)
  refine ts_putR (q := M36.1.length) tf_X12_60 (fun _ => rfl) rfl rfl (fun _ => ⟨rfl, rfl⟩) dX12_init_156 ?_
  refine tl_let (fun M38 => ?_)
  refine ts_aload_n (i := 0) rfl rfl dX12_init_159 ?_
  refine ts_bipush rfl dX12_init_160 ?_
  refine ts_newa (n := 6) (c := 20) (q := 0) hal ta_0 (Or.inl ⟨rfl, rfl, rfl⟩) rfl (by decide) dX12_init_162 ?_
  refine tl_let (fun M39 => ?_)
  refine ts_putR (q := M38.1.length) tf_X12_63 (fun _ => rfl) rfl rfl (fun _ => ⟨rfl, rfl⟩) dX12_init_164 ?_
  refine tl_let (fun M40 => ?_)
  refine ts_aload_n (i := 0) rfl rfl dX12_init_167 ?_
  refine ts_sipush rfl dX12_init_168 ?_
  refine ts_newa (n := 130) (c := 20) (q := 0) hal ta_0 (Or.inl ⟨rfl, rfl, rfl⟩) rfl (by decide) dX12_init_171 ?_
  refine tl_let (fun M41 => ?_)
  refine ts_putR (q := M40.1.length) tf_X12_66 (fun _ => rfl) rfl rfl (fun _ => ⟨rfl, rfl⟩) dX12_init_173 ?_
  refine tl_let (fun M42 => ?_)
  refine ts_aload_n (i := 0) rfl rfl dX12_init_176 ?_
  refine ts_bipush rfl dX12_init_177 ?_
  refine ts_newa (n := 30) (c := 20) (q := 0) hal ta_0 (Or.inl ⟨rfl, rfl, rfl⟩) rfl (by decide) dX12_init_179 ?_
  refine tl_let (fun M43 => ?_)
  refine ts_putR (q := M42.1.length) tf_X12_69 (fun _ => rfl) rfl rfl (fun _ => ⟨rfl, rfl⟩) dX12_init_181 ?_
  refine tl_let (fun M44 => ?_)
  refine ts_aload_n (i := 0) rfl rfl dX12_init_184 ?_
  refine ts_bipush rfl dX12_init_185 ?_
  refine ts_newa (n := 6) (c := 20) (q := 0) hal ta_0 (Or.inl ⟨rfl, rfl, rfl⟩) rfl (by decide) dX12_init_187 ?_
  refine tl_let (fun M45 => ?_)
  refine ts_putR (q := M44.1.length) tf_X12_72 (fun _ => rfl) rfl rfl (fun _ => ⟨rfl, rfl⟩) dX12_init_189 ?_
  refine tl_let (fun M46 => ?_)
  refine ts_aload_n (i := 0) rfl rfl dX12_init_192 ?_
  refine ts_bipush rfl dX12_init_193 ?_
  refine ts_newa (n := 20) (c := 20) (q := 0) hal ta_0 (Or.inl ⟨rfl, rfl, rfl⟩) rfl (by decide) dX12_init_195 ?_
  refine tl_let (fun M47 => ?_)
  refine ts_putR (q := M46.1.length) tf_X12_75 (fun _ => rfl) rfl rfl (fun _ => ⟨rfl, rfl⟩) dX12_init_197 ?_
  refine tl_let (fun M48 => ?_)
  refine ts_aload_n (i := 0) rfl rfl dX12_init_200 ?_
  refine ts_bipush rfl dX12_init_201 ?_
  refine ts_newa (n := 20) (c := 20) (q := 0) hal ta_0 (Or.inl ⟨rfl, rfl, rfl⟩) rfl (by decide) dX12_init_203 ?_
  refine tl_let (fun M49 => ?_)
  refine ts_putR (q := M48.1.length) tf_X12_78 (fun _ => rfl) rfl rfl (fun _ => ⟨rfl, rfl⟩) dX12_init_205 ?_
  refine tl_let (fun M50 => ?_)
  refine ts_aload_n (i := 0) rfl rfl dX12_init_208 ?_
  refine ts_sipush rfl dX12_init_209 ?_
  refine ts_newa (n := 704) (c := 20) (q := 0) hal ta_0 (Or.inl ⟨rfl, rfl, rfl⟩) rfl (by decide) dX12_init_212 ?_
  refine tl_let (fun M51 => ?_)
  refine ts_putR (q := M50.1.length) tf_X12_81 (fun _ => rfl) rfl rfl (fun _ => ⟨rfl, rfl⟩) dX12_init_214 ?_
  refine tl_let (fun M52 => ?_)
  refine ts_aload_n (i := 0) rfl rfl dX12_init_217 ?_
  refine ts_bipush rfl dX12_init_218 ?_
  refine ts_newa (n := 100) (c := 20) (q := 0) hal ta_0 (Or.inl ⟨rfl, rfl, rfl⟩) rfl (by decide) dX12_init_220 ?_
  refine tl_let (fun M53 => ?_)
  refine ts_putR (q := M52.1.length) tf_X12_84 (fun _ => rfl) rfl rfl (fun _ => ⟨rfl, rfl⟩) dX12_init_222 ?_
  refine tl_let (fun M54 => ?_)
  refine ts_aload_n (i := 0) rfl rfl dX12_init_225 ?_
  refine ts_bipush rfl dX12_init_226 ?_
  refine ts_newa (n := 100) (c := 20) (q := 0) hal ta_0 (Or.inl ⟨rfl, rfl, rfl⟩) rfl (by decide) dX12_init_228 ?_
  refine tl_let (fun M55 => ?_)
  refine ts_putR (q := M54.1.length) tf_X12_87 (fun _ => rfl) rfl rfl (fun _ => ⟨rfl, rfl⟩) dX12_init_230 ?_
  refine tl_let (fun M56 => ?_)
  refine ts_aload_n (i := 0) rfl rfl dX12_init_233 ?_
  refine ts_bipush rfl dX12_init_234 ?_
  refine ts_newa (n := 100) (c := 20) (q := 0) hal ta_0 (Or.inl ⟨rfl, rfl, rfl⟩) rfl (by decide) dX12_init_236 ?_
  refine tl_let (fun M57 => ?_)
  refine ts_putR (q := M56.1.length) tf_X12_90 (fun _ => rfl) rfl rfl (fun _ => ⟨rfl, rfl⟩) dX12_init_238 ?_
  refine tl_let (fun M58 => ?_)
  refine ts_aload_n (i := 0) rfl rfl dX12_init_241 ?_
  refine ts_bipush rfl dX12_init_242 ?_
  refine ts_newa (n := 100) (c := 23) (q := 3) hal ta_3 (Or.inr (Or.inr (Or.inr (Or.inl ⟨rfl, rfl, rfl⟩)))) rfl (by decide) dX12_init_244 ?_
  refine tl_let (fun M59 => ?_)
  refine ts_putR (q := M58.1.length) tf_X12_93 (fun _ => rfl) rfl rfl (fun _ => ⟨rfl, rfl⟩) dX12_init_246 ?_
  refine tl_let (fun M60 => ?_)
  refine ts_aload_n (i := 0) rfl rfl dX12_init_249 ?_
  refine ts_bipush rfl dX12_init_250 ?_
  refine ts_newa (n := 100) (c := 23) (q := 3) hal ta_3 (Or.inr (Or.inr (Or.inr (Or.inl ⟨rfl, rfl, rfl⟩)))) rfl (by decide) dX12_init_252 ?_
  refine tl_let (fun M61 => ?_)
  refine ts_putR (q := M60.1.length) tf_X12_97 (fun _ => rfl) rfl rfl (fun _ => ⟨rfl, rfl⟩) dX12_init_254 ?_
  refine tl_let (fun M62 => ?_)
  refine ts_aload_n (i := 0) rfl rfl dX12_init_257 ?_
  refine ts_bipush rfl dX12_init_258 ?_
  refine ts_newa (n := 6) (c := 20) (q := 0) hal ta_0 (Or.inl ⟨rfl, rfl, rfl⟩) rfl (by decide) dX12_init_260 ?_
  refine tl_let (fun M63 => ?_)
  refine ts_putR (q := M62.1.length) tf_X12_100 (fun _ => rfl) rfl rfl (fun _ => ⟨rfl, rfl⟩) dX12_init_262 ?_
  refine tl_let (fun M64 => ?_)
  refine ts_aload_n (i := 0) rfl rfl dX12_init_265 ?_
  refine ts_bipush rfl dX12_init_266 ?_
  refine ts_newa (n := 6) (c := 20) (q := 0) hal ta_0 (Or.inl ⟨rfl, rfl, rfl⟩) rfl (by decide) dX12_init_268 ?_
  refine tl_let (fun M65 => ?_)
  refine ts_putR (q := M64.1.length) tf_X12_103 (fun _ => rfl) rfl rfl (fun _ => ⟨rfl, rfl⟩) dX12_init_270 ?_
  refine tl_let (fun M66 => ?_)
  refine ts_aload_n (i := 0) rfl rfl dX12_init_273 ?_
  refine ts_bipush rfl dX12_init_274 ?_
  refine ts_newa (n := 30) (c := 20) (q := 0) hal ta_0 (Or.inl ⟨rfl, rfl, rfl⟩) rfl (by decide) dX12_init_276 ?_
  refine tl_let (fun M67 => ?_)
  refine ts_putR (q := M66.1.length) tf_X12_106 (fun _ => rfl) rfl rfl (fun _ => ⟨rfl, rfl⟩) dX12_init_278 ?_
  refine tl_let (fun M68 => ?_)
  refine ts_aload_n (i := 0) rfl rfl dX12_init_281 ?_
  refine ts_bipush rfl dX12_init_282 ?_
  refine ts_newa (n := 6) (c := 20) (q := 0) hal ta_0 (Or.inl ⟨rfl, rfl, rfl⟩) rfl (by decide) dX12_init_284 ?_
  refine tl_let (fun M69 => ?_)
  refine ts_putR (q := M68.1.length) tf_X12_109 (fun _ => rfl) rfl rfl (fun _ => ⟨rfl, rfl⟩) dX12_init_286 ?_
  refine tl_let (fun M70 => ?_)
  refine ts_aload_n (i := 0) rfl rfl dX12_init_289 ?_
  refine ts_bipush rfl dX12_init_290 ?_
  refine ts_newa (n := 50) (c := 20) (q := 0) hal ta_0 (Or.inl ⟨rfl, rfl, rfl⟩) rfl (by decide) dX12_init_292 ?_
  refine tl_let (fun M71 => ?_)
  refine ts_putR (q := M70.1.length) tf_X12_112 (fun _ => rfl) rfl rfl (fun _ => ⟨rfl, rfl⟩) dX12_init_294 ?_
  refine tl_let (fun M72 => ?_)
  refine ts_aload_n (i := 0) rfl rfl dX12_init_297 ?_
  refine ts_bipush rfl dX12_init_298 ?_
  refine ts_newa (n := 24) (c := 20) (q := 0) hal ta_0 (Or.inl ⟨rfl, rfl, rfl⟩) rfl (by decide) dX12_init_300 ?_
  refine tl_let (fun M73 => ?_)
  refine ts_putR (q := M72.1.length) tf_X12_115 (fun _ => rfl) rfl rfl (fun _ => ⟨rfl, rfl⟩) dX12_init_302 ?_
  refine tl_let (fun M74 => ?_)
  refine ts_aload_n (i := 0) rfl rfl dX12_init_305 ?_
  refine ts_bipush rfl dX12_init_306 ?_
  refine ts_newa (n := 6) (c := 20) (q := 0) hal ta_0 (Or.inl ⟨rfl, rfl, rfl⟩) rfl (by decide) dX12_init_308 ?_
  refine tl_let (fun M75 => ?_)
  refine ts_dupR dX12_init_310 ?_
  refine ts_iconst rfl dX12_init_311 ?_
  refine ts_iconst rfl dX12_init_312 ?_
  refine ts_iast dX12_init_313 ?_
  refine tl_let (fun M76 => ?_)
  refine ts_dupR dX12_init_314 ?_
  refine ts_iconst rfl dX12_init_315 ?_
  refine ts_iconst rfl dX12_init_316 ?_
  refine ts_iast dX12_init_317 ?_
  refine tl_let (fun M77 => ?_)
  refine ts_dupR dX12_init_318 ?_
  refine ts_iconst rfl dX12_init_319 ?_
  refine ts_iconst rfl dX12_init_320 ?_
  refine ts_iast dX12_init_321 ?_
  refine tl_let (fun M78 => ?_)
  refine ts_dupR dX12_init_322 ?_
  refine ts_iconst rfl dX12_init_323 ?_
  refine ts_iconst rfl dX12_init_324 ?_
  refine ts_iast dX12_init_325 ?_
  refine tl_let (fun M79 => ?_)
  refine ts_dupR dX12_init_326 ?_
  refine ts_iconst rfl dX12_init_327 ?_
  refine ts_iconst rfl dX12_init_328 ?_
  refine ts_iast dX12_init_329 ?_
  refine tl_let (fun M80 => ?_)
  refine ts_dupR dX12_init_330 ?_
  refine ts_iconst rfl dX12_init_331 ?_
  refine ts_iconst rfl dX12_init_332 ?_
  refine ts_iast dX12_init_333 ?_
  refine tl_let (fun M81 => ?_)
  refine ts_putR (q := M74.1.length) tf_X12_118 (fun _ => rfl) rfl rfl (fun _ => ⟨rfl, rfl⟩) dX12_init_334 ?_
  refine tl_let (fun M82 => ?_)
  refine ts_aload_n (i := 0) rfl rfl dX12_init_337 ?_
  refine ts_bipush rfl dX12_init_338 ?_
  refine ts_newa (n := 6) (c := 20) (q := 0) hal ta_0 (Or.inl ⟨rfl, rfl, rfl⟩) rfl (by decide) dX12_init_340 ?_
  refine tl_let (fun M83 => ?_)
  refine ts_putR (q := M82.1.length) tf_X12_121 (fun _ => rfl) rfl rfl (fun _ => ⟨rfl, rfl⟩) dX12_init_342 ?_
  refine tl_let (fun M84 => ?_)
  refine ts_aload_n (i := 0) rfl rfl dX12_init_345 ?_
  refine ts_sipush rfl dX12_init_346 ?_
  refine ts_newa (n := 360) (c := 24) (q := 4) hal ta_4 (Or.inr (Or.inr (Or.inr (Or.inr ⟨rfl, rfl, rfl⟩)))) rfl (by decide) dX12_init_349 ?_
  refine tl_let (fun M85 => ?_)
  refine ts_putR (q := M84.1.length) tf_X12_124 (fun _ => rfl) rfl rfl (fun _ => ⟨rfl, rfl⟩) dX12_init_351 ?_
  refine tl_let (fun M86 => ?_)
  refine ts_aload_n (i := 0) rfl rfl dX12_init_354 ?_
  refine ts_bipush rfl dX12_init_355 ?_
  refine ts_newa (n := 60) (c := 24) (q := 4) hal ta_4 (Or.inr (Or.inr (Or.inr (Or.inr ⟨rfl, rfl, rfl⟩)))) rfl (by decide) dX12_init_357 ?_
  refine tl_let (fun M87 => ?_)
  refine ts_putR (q := M86.1.length) tf_X12_128 (fun _ => rfl) rfl rfl (fun _ => ⟨rfl, rfl⟩) dX12_init_359 ?_
  refine tl_let (fun M88 => ?_)
  exact ts_vret rfl dX12_init_362
