def F_X12_stingsIn (a1 : Int) (a2 : Int) (a3 : Int) (D : td_D) : Option (Int × td_D) :=
  if a2 < 0 then
    some (0, D)
  else
    td_b (F_X12_far a1 a3 D) fun r1 D2 =>
    if a2 < r1 then
      some (0, D2)
    else
      some (1, D2)
set_option maxHeartbeats 4000000 in
set_option maxRecDepth 20000 in
theorem S_X12_stingsIn (l : Launch) {E : tv_E} (hE : tv_hE E) (d : Nat) (a1 : Int) (a2 : Int) (a3 : Int) (D : td_D) : td_msim l E (d + 2) mX12_stingsIn g_m [tv_R 1, tv_I a1, tv_I a2, tv_I a3] D (F_X12_stingsIn a1 a2 a3 D) := by
  refine td_meetL (ls := [tv_R 1, tv_I a1, tv_I a2, tv_I a3]) rfl (Nat.le_of_ble_eq_true rfl) rfl ?_
  unfold F_X12_stingsIn
  refine ts_iload_n (i := 2) rfl rfl dX12_stingsIn_0 ?_
  refine td_if_lt (tgt := 17) rfl dX12_stingsIn_1 ?_ ?_
  · refine ts_iconst rfl dX12_stingsIn_17 ?_
    exact td_zretK (Or.inl rfl) rfl dX12_stingsIn_18
  · refine ts_iload_n (i := 1) rfl rfl dX12_stingsIn_4 ?_
    refine ts_iload_n (i := 3) rfl rfl dX12_stingsIn_5 ?_
    refine tq_callS (y2 := mX12_far) [tv_I a1, tv_I a3] [] (st' := fun r1 => [tv_I r1]) tw_X12_far tx_X12_far tl_X12_338 rfl rfl rfl rfl (fun _ => rfl) dX12_stingsIn_6 (S_X12_far l hE _ a1 a3 D) (fun r1 D2 => ?_)
    refine ts_iload_n (i := 2) rfl rfl dX12_stingsIn_9 ?_
    refine td_icmp_gt (tgt := 17) rfl dX12_stingsIn_10 ?_ ?_
    · refine ts_iconst rfl dX12_stingsIn_17 ?_
      exact td_zretK (Or.inl rfl) rfl dX12_stingsIn_18
    · refine ts_iconst rfl dX12_stingsIn_13 ?_
      refine ts_goto (tgt := 18) rfl dX12_stingsIn_14 ?_
      exact td_zretK (Or.inr rfl) rfl dX12_stingsIn_18
def F_X12_stungBits_4 : Nat → Int → Int → Int → td_D → Option (Int × td_D)
  | 0, _, _, _, _ => none
  | n + 1, v1, v2, v3, D =>
    if D 1 3 ≤ v3 then
      some (v2, D)
    else
      if 0 ≤ v3 ∧ v3 < ((6 : Nat) : Int) then
        td_b (F_X12_allIn v3 D) fun r2 D3 =>
        td_b (F_X12_stingsTo r2 D3) fun r4 D5 =>
        td_b (F_X12_stingsIn (D 3 (Int.toNat v3)) r4 v1 D5) fun r6 D7 =>
        if r6 = 0 then
          F_X12_stungBits_4 n v1 v2 (tv_w (v3 + 1)) D7
        else
          F_X12_stungBits_4 n v1 (tv_or v2 (tv_shl 1 v3)) (tv_w (v3 + 1)) D7
      else none
set_option maxHeartbeats 4000000 in
set_option maxRecDepth 20000 in
theorem S_X12_stungBits_4 {l : Launch} {E : tv_E} (hE : tv_hE E) (d : Nat) : ∀ (n : Nat) (v1 : Int) (v2 : Int) (v3 : Int) (D : td_D), td_sim l E (d + 3) mX12_stungBits g_m 4 [tv_R 1, tv_I v1, tv_I v2, tv_I v3] [] D (F_X12_stungBits_4 n v1 v2 v3 D) := by
  intro n
  induction n with
  | zero => intros; exact tv_none
  | succ n ih =>
    intro v1 v2 v3 D
    show td_sim _ _ _ _ _ _ _ _ _ (F_X12_stungBits_4 (n + 1) v1 v2 v3 D)
    unfold F_X12_stungBits_4
    refine ts_iload_n (i := 3) rfl rfl dX12_stungBits_4 ?_
    refine ts_aload_n (i := 0) rfl rfl dX12_stungBits_5 ?_
    refine td_getI tl_X12_146 rfl ga_m_1 rfl dX12_stungBits_6 ?_
    refine td_icmp_ge (tgt := 47) rfl dX12_stungBits_9 ?_ ?_
    · refine ts_iload_n (i := 2) rfl rfl dX12_stungBits_47 ?_
      exact td_iret rfl dX12_stungBits_48
    · refine ts_aload_n (i := 0) rfl rfl dX12_stungBits_12 ?_
      refine ts_aload_n (i := 0) rfl rfl dX12_stungBits_13 ?_
      refine td_getR (q := 3) tl_X12_13 rfl ga_m_1 rfl dX12_stungBits_14 ?_
      refine ts_iload_n (i := 3) rfl rfl dX12_stungBits_17 ?_
      refine td_guard (fun h1 => ?_)
      refine td_ialdK ga_m_3 (gn_m_3 _) h1 dX12_stungBits_18 ?_
      refine ts_aload_n (i := 0) rfl rfl dX12_stungBits_19 ?_
      refine ts_aload_n (i := 0) rfl rfl dX12_stungBits_20 ?_
      refine ts_iload_n (i := 3) rfl rfl dX12_stungBits_21 ?_
      refine tq_callV (y2 := mX12_allIn) [tv_I v3] [tv_R 1, tv_I (D 3 (Int.toNat v3)), tv_R 1] 1 (st' := fun r2 => [tv_I r2, tv_R 1, tv_I (D 3 (Int.toNat v3)), tv_R 1]) tw_X12_allIn tx_X12_allIn tw_c12 ga_m_1 tl_X12_277 rfl rfl rfl rfl (fun _ => rfl) dX12_stungBits_22 (S_X12_allIn l hE _ v3 D) (fun r2 D3 => ?_)
      refine tq_callV (y2 := mX12_stingsTo) [tv_I r2] [tv_I (D 3 (Int.toNat v3)), tv_R 1] 1 (st' := fun r4 => [tv_I r4, tv_I (D 3 (Int.toNat v3)), tv_R 1]) tw_X12_stingsTo tx_X12_stingsTo tw_c12 ga_m_1 tl_X12_295 rfl rfl rfl rfl (fun _ => rfl) dX12_stungBits_25 (S_X12_stingsTo l hE _ r2 D3) (fun r4 D5 => ?_)
      refine ts_iload_n (i := 1) rfl rfl dX12_stungBits_28 ?_
      refine tq_callV (y2 := mX12_stingsIn) [tv_I (D 3 (Int.toNat v3)), tv_I r4, tv_I v1] [] 1 (st' := fun r6 => [tv_I r6]) tw_X12_stingsIn tx_X12_stingsIn tw_c12 ga_m_1 tl_X12_341 rfl rfl rfl rfl (fun _ => rfl) dX12_stungBits_29 (S_X12_stingsIn l hE _ (D 3 (Int.toNat v3)) r4 v1 D5) (fun r6 D7 => ?_)
      refine td_if_eq (tgt := 41) rfl dX12_stungBits_32 ?_ ?_
      · refine tq_iinc [tv_R 1, tv_I v1, tv_I v2, tv_I (tv_w (v3 + 1))] rfl rfl rfl dX12_stungBits_41 ?_
        refine ts_goto (tgt := 4) rfl dX12_stungBits_44 ?_
        exact ih v1 v2 (tv_w (v3 + 1)) D7
      · refine ts_iload_n (i := 2) rfl rfl dX12_stungBits_35 ?_
        refine ts_iconst rfl dX12_stungBits_36 ?_
        refine ts_iload_n (i := 3) rfl rfl dX12_stungBits_37 ?_
        refine ts_ishl dX12_stungBits_38 ?_
        refine ts_ior dX12_stungBits_39 ?_
        refine tq_istore_n [tv_R 1, tv_I v1, tv_I (tv_or v2 (tv_shl 1 v3)), tv_I v3] rfl (Nat.le_of_ble_eq_true rfl) rfl rfl dX12_stungBits_40 ?_
        refine tq_iinc [tv_R 1, tv_I v1, tv_I (tv_or v2 (tv_shl 1 v3)), tv_I (tv_w (v3 + 1))] rfl rfl rfl dX12_stungBits_41 ?_
        refine ts_goto (tgt := 4) rfl dX12_stungBits_44 ?_
        exact ih v1 (tv_or v2 (tv_shl 1 v3)) (tv_w (v3 + 1)) D7
def F_X12_stungBits (a1 : Int) (D : td_D) : Option (Int × td_D) :=
  F_X12_stungBits_4 tf_N a1 0 0 D
set_option maxHeartbeats 4000000 in
set_option maxRecDepth 20000 in
theorem S_X12_stungBits (l : Launch) {E : tv_E} (hE : tv_hE E) (d : Nat) (a1 : Int) (D : td_D) : td_msim l E (d + 3) mX12_stungBits g_m [tv_R 1, tv_I a1] D (F_X12_stungBits a1 D) := by
  refine td_meetL (ls := [tv_R 1, tv_I a1, tv_U, tv_U]) rfl (Nat.le_of_ble_eq_true rfl) rfl ?_
  unfold F_X12_stungBits
  refine ts_iconst rfl dX12_stungBits_0 ?_
  refine tq_istore_n [tv_R 1, tv_I a1, tv_I 0, tv_U] rfl (Nat.le_of_ble_eq_true rfl) rfl rfl dX12_stungBits_1 ?_
  refine ts_iconst rfl dX12_stungBits_2 ?_
  refine tq_istore_n [tv_R 1, tv_I a1, tv_I 0, tv_I 0] rfl (Nat.le_of_ble_eq_true rfl) rfl rfl dX12_stungBits_3 ?_
  exact S_X12_stungBits_4 hE d tf_N a1 0 0 D
def F_X12_findStings_21 (k2 : Int → td_D → Option (Int × td_D)) : Nat → Int → Int → td_D → Option (Int × td_D)
  | 0, _, _, _ => none
  | n + 1, v1, v2, D =>
    if v2 = 0 then
      k2 (tv_w (v1 + 1)) D
    else
      if 0 ≤ v1 ∧ v1 < ((100 : Nat) : Int) then
        td_l (td_upd D 26 (Int.toNat v1) (tv_w ((D 26 (Int.toNat v1)) + 1))) fun D2 =>
        F_X12_findStings_21 k2 n v1 (tv_and v2 (tv_w (v2 - 1))) D2
      else none
set_option maxHeartbeats 4000000 in
set_option maxRecDepth 20000 in
theorem S_X12_findStings_21 {l : Launch} {E : tv_E} (hE : tv_hE E) (d : Nat) (k2 : Int → td_D → Option (Int × td_D)) (hk2 : ∀ (v1 : Int) (D : td_D), td_sim l E (d + 4) mX12_findStings g_m 2 [tv_R 1, tv_I v1, tv_U] [] D (k2 v1 D)) : ∀ (n : Nat) (v1 : Int) (v2 : Int) (D : td_D), td_sim l E (d + 4) mX12_findStings g_m 21 [tv_R 1, tv_I v1, tv_I v2] [] D (F_X12_findStings_21 k2 n v1 v2 D) := by
  intro n
  induction n with
  | zero => intros; exact tv_none
  | succ n ih =>
    intro v1 v2 D
    show td_sim _ _ _ _ _ _ _ _ _ (F_X12_findStings_21 k2 (n + 1) v1 v2 D)
    unfold F_X12_findStings_21
    refine ts_iload_n (i := 2) rfl rfl dX12_findStings_21 ?_
    refine td_if_eq (tgt := 44) rfl dX12_findStings_22 ?_ ?_
    · refine tq_iinc [tv_R 1, tv_I (tv_w (v1 + 1)), tv_I v2] rfl rfl rfl dX12_findStings_44 ?_
      refine ts_goto (tgt := 2) rfl dX12_findStings_47 ?_
      refine tv_weak (ls' := [tv_R 1, tv_I (tv_w (v1 + 1)), tv_U]) ⟨Or.inr rfl, Or.inr rfl, Or.inl rfl, trivial⟩ ?_
      exact hk2 (tv_w (v1 + 1)) D
    · refine ts_aload_n (i := 0) rfl rfl dX12_findStings_25 ?_
      refine td_getR (q := 26) tl_X12_84 rfl ga_m_1 rfl dX12_findStings_26 ?_
      refine ts_iload_n (i := 1) rfl rfl dX12_findStings_29 ?_
      refine ts_dup2 dX12_findStings_30 ?_
      refine td_guard (fun h1 => ?_)
      refine td_ialdK ga_m_26 (gn_m_26 _) h1 dX12_findStings_31 ?_
      refine ts_iconst rfl dX12_findStings_32 ?_
      refine ts_iadd dX12_findStings_33 ?_
      refine td_iastK ga_m_26 (gn_m_26 _) h1 dX12_findStings_34 ?_
      refine td_let (fun D2 => ?_)
      refine ts_iload_n (i := 2) rfl rfl dX12_findStings_35 ?_
      refine ts_iload_n (i := 2) rfl rfl dX12_findStings_36 ?_
      refine ts_iconst rfl dX12_findStings_37 ?_
      refine ts_isub dX12_findStings_38 ?_
      refine ts_iand dX12_findStings_39 ?_
      refine tq_istore_n [tv_R 1, tv_I v1, tv_I (tv_and v2 (tv_w (v2 - 1)))] rfl (Nat.le_of_ble_eq_true rfl) rfl rfl dX12_findStings_40 ?_
      refine ts_goto (tgt := 21) rfl dX12_findStings_41 ?_
      exact ih v1 (tv_and v2 (tv_w (v2 - 1))) D2
def F_X12_findStings_2 : Nat → Int → td_D → Option (Int × td_D)
  | 0, _, _ => none
  | n + 1, v1, D =>
    if 100 ≤ v1 then
      some (0, D)
    else
      if 0 ≤ v1 ∧ v1 < ((100 : Nat) : Int) then
        td_l (td_upd D 26 (Int.toNat v1) 0) fun D4 =>
        td_b (F_X12_stungBits v1 D4) fun r5 D6 =>
        F_X12_findStings_21 (fun v1 D => F_X12_findStings_2 n v1 D) tf_N v1 r5 D6
      else none
set_option maxHeartbeats 4000000 in
set_option maxRecDepth 20000 in
theorem S_X12_findStings_2 {l : Launch} {E : tv_E} (hE : tv_hE E) (d : Nat) : ∀ (n : Nat) (v1 : Int) (D : td_D), td_sim l E (d + 4) mX12_findStings g_m 2 [tv_R 1, tv_I v1, tv_U] [] D (F_X12_findStings_2 n v1 D) := by
  intro n
  induction n with
  | zero => intros; exact tv_none
  | succ n ih =>
    intro v1 D
    show td_sim _ _ _ _ _ _ _ _ _ (F_X12_findStings_2 (n + 1) v1 D)
    unfold F_X12_findStings_2
    refine ts_iload_n (i := 1) rfl rfl dX12_findStings_2 ?_
    refine ts_bipush rfl dX12_findStings_3 ?_
    refine td_icmp_ge (tgt := 50) rfl dX12_findStings_5 ?_ ?_
    · exact td_vret rfl dX12_findStings_50
    · refine ts_aload_n (i := 0) rfl rfl dX12_findStings_8 ?_
      refine td_getR (q := 26) tl_X12_84 rfl ga_m_1 rfl dX12_findStings_9 ?_
      refine ts_iload_n (i := 1) rfl rfl dX12_findStings_12 ?_
      refine ts_iconst rfl dX12_findStings_13 ?_
      refine td_guard (fun h3 => ?_)
      refine td_iastK ga_m_26 (gn_m_26 _) h3 dX12_findStings_14 ?_
      refine td_let (fun D4 => ?_)
      refine ts_aload_n (i := 0) rfl rfl dX12_findStings_15 ?_
      refine ts_iload_n (i := 1) rfl rfl dX12_findStings_16 ?_
      refine tq_callV (y2 := mX12_stungBits) [tv_I v1] [] 1 (st' := fun r5 => [tv_I r5]) tw_X12_stungBits tx_X12_stungBits tw_c12 ga_m_1 tl_X12_344 rfl rfl rfl rfl (fun _ => rfl) dX12_findStings_17 (S_X12_stungBits l hE _ v1 D4) (fun r5 D6 => ?_)
      refine tq_istore_n [tv_R 1, tv_I v1, tv_I r5] rfl (Nat.le_of_ble_eq_true rfl) rfl rfl dX12_findStings_20 ?_
      exact S_X12_findStings_21 hE d (fun v1 D => F_X12_findStings_2 n v1 D) (fun v1 D => ih v1 D) tf_N v1 r5 D6
def F_X12_findStings (D : td_D) : Option (Int × td_D) :=
  F_X12_findStings_2 tf_N 0 D
set_option maxHeartbeats 4000000 in
set_option maxRecDepth 20000 in
theorem S_X12_findStings (l : Launch) {E : tv_E} (hE : tv_hE E) (d : Nat) (D : td_D) : td_msim l E (d + 4) mX12_findStings g_m [tv_R 1] D (F_X12_findStings D) := by
  refine td_meetL (ls := [tv_R 1, tv_U, tv_U]) rfl (Nat.le_of_ble_eq_true rfl) rfl ?_
  unfold F_X12_findStings
  refine ts_iconst rfl dX12_findStings_0 ?_
  refine tq_istore_n [tv_R 1, tv_I 0, tv_U] rfl (Nat.le_of_ble_eq_true rfl) rfl rfl dX12_findStings_1 ?_
  exact S_X12_findStings_2 hE d tf_N 0 D
def F_X12_stung (a1 : Int) (D : td_D) : Option (Int × td_D) :=
  td_b (F_X12_isCell a1 D) fun r1 D2 =>
  if r1 = 0 then
    some ((-1), D2)
  else
    td_b (F_X12_layNow D2) fun _ D4 =>
    td_b (F_X12_stungBits a1 D4) fun r5 D6 =>
    some (r5, D6)
set_option maxHeartbeats 4000000 in
set_option maxRecDepth 20000 in
theorem S_X12_stung (l : Launch) {E : tv_E} (hE : tv_hE E) (d : Nat) (a1 : Int) (D : td_D) : td_msim l E (d + 4) mX12_stung g_m [tv_R 1, tv_I a1] D (F_X12_stung a1 D) := by
  refine td_meetL (ls := [tv_R 1, tv_I a1]) rfl (Nat.le_of_ble_eq_true rfl) rfl ?_
  unfold F_X12_stung
  refine ts_iload_n (i := 1) rfl rfl dX12_stung_0 ?_
  refine tq_callS (y2 := mX12_isCell) [tv_I a1] [] (st' := fun r1 => [tv_I r1]) tw_X12_isCell tx_X12_isCell tl_X12_156 rfl rfl rfl rfl (fun _ => rfl) dX12_stung_1 (S_X12_isCell l hE _ a1 D) (fun r1 D2 => ?_)
  refine td_if_ne (tgt := 9) rfl dX12_stung_4 ?_ ?_
  · refine ts_iconst rfl dX12_stung_7 ?_
    exact td_iret rfl dX12_stung_8
  · refine ts_aload_n (i := 0) rfl rfl dX12_stung_9 ?_
    refine tq_callV (y2 := mX12_layNow) [] [] 1 (st' := fun _ => []) tw_X12_layNow tx_X12_layNow tw_c12 ga_m_1 tl_X12_289 rfl rfl rfl rfl (fun _ => rfl) dX12_stung_10 (S_X12_layNow l hE _ D2) (fun r3 D4 => ?_)
    refine ts_aload_n (i := 0) rfl rfl dX12_stung_13 ?_
    refine ts_iload_n (i := 1) rfl rfl dX12_stung_14 ?_
    refine tq_callV (y2 := mX12_stungBits) [tv_I a1] [] 1 (st' := fun r5 => [tv_I r5]) tw_X12_stungBits tx_X12_stungBits tw_c12 ga_m_1 tl_X12_344 rfl rfl rfl rfl (fun _ => rfl) dX12_stung_15 (S_X12_stungBits l hE _ a1 D4) (fun r5 D6 => ?_)
    exact td_iret rfl dX12_stung_18
def F_X12_isNearer (a1 : Int) (a2 : Int) (D : td_D) : Option (Int × td_D) :=
  if 0 ≤ a1 ∧ a1 < ((100 : Nat) : Int) then
    if 0 ≤ a2 ∧ a2 < ((100 : Nat) : Int) then
      if D 28 (Int.toNat a1) < D 28 (Int.toNat a2) then
        some (1, D)
      else
        if D 28 (Int.toNat a1) = D 28 (Int.toNat a2) then
          if D 27 (Int.toNat a2) ≤ D 27 (Int.toNat a1) then
            some (0, D)
          else
            some (1, D)
        else
          some (0, D)
    else none
  else none
set_option maxHeartbeats 4000000 in
set_option maxRecDepth 20000 in
theorem S_X12_isNearer (l : Launch) {E : tv_E} (hE : tv_hE E) (d : Nat) (a1 : Int) (a2 : Int) (D : td_D) : td_msim l E (d + 0) mX12_isNearer g_m [tv_R 1, tv_I a1, tv_I a2] D (F_X12_isNearer a1 a2 D) := by
  refine td_meetL (ls := [tv_R 1, tv_I a1, tv_I a2]) rfl (Nat.le_of_ble_eq_true rfl) rfl ?_
  unfold F_X12_isNearer
  refine ts_aload_n (i := 0) rfl rfl dX12_isNearer_0 ?_
  refine td_getR (q := 28) tl_X12_90 rfl ga_m_1 rfl dX12_isNearer_1 ?_
  refine ts_iload_n (i := 1) rfl rfl dX12_isNearer_4 ?_
  refine td_guard (fun h1 => ?_)
  refine td_ialdK ga_m_28 (gn_m_28 _) h1 dX12_isNearer_5 ?_
  refine ts_aload_n (i := 0) rfl rfl dX12_isNearer_6 ?_
  refine td_getR (q := 28) tl_X12_90 rfl ga_m_1 rfl dX12_isNearer_7 ?_
  refine ts_iload_n (i := 2) rfl rfl dX12_isNearer_10 ?_
  refine td_guard (fun h2 => ?_)
  refine td_ialdK ga_m_28 (gn_m_28 _) h2 dX12_isNearer_11 ?_
  refine td_icmp_lt (tgt := 45) rfl dX12_isNearer_12 ?_ ?_
  · refine ts_iconst rfl dX12_isNearer_45 ?_
    refine ts_goto (tgt := 50) rfl dX12_isNearer_46 ?_
    exact td_zretK (Or.inr rfl) rfl dX12_isNearer_50
  · refine ts_aload_n (i := 0) rfl rfl dX12_isNearer_15 ?_
    refine td_getR (q := 28) tl_X12_90 rfl ga_m_1 rfl dX12_isNearer_16 ?_
    refine ts_iload_n (i := 1) rfl rfl dX12_isNearer_19 ?_
    refine td_ialdK ga_m_28 (gn_m_28 _) h1 dX12_isNearer_20 ?_
    refine ts_aload_n (i := 0) rfl rfl dX12_isNearer_21 ?_
    refine td_getR (q := 28) tl_X12_90 rfl ga_m_1 rfl dX12_isNearer_22 ?_
    refine ts_iload_n (i := 2) rfl rfl dX12_isNearer_25 ?_
    refine td_ialdK ga_m_28 (gn_m_28 _) h2 dX12_isNearer_26 ?_
    refine td_icmp_ne (tgt := 49) rfl dX12_isNearer_27 ?_ ?_
    · refine ts_aload_n (i := 0) rfl rfl dX12_isNearer_30 ?_
      refine td_getR (q := 27) tl_X12_87 rfl ga_m_1 rfl dX12_isNearer_31 ?_
      refine ts_iload_n (i := 1) rfl rfl dX12_isNearer_34 ?_
      refine td_ialdK ga_m_27 (gn_m_27 _) h1 dX12_isNearer_35 ?_
      refine ts_aload_n (i := 0) rfl rfl dX12_isNearer_36 ?_
      refine td_getR (q := 27) tl_X12_87 rfl ga_m_1 rfl dX12_isNearer_37 ?_
      refine ts_iload_n (i := 2) rfl rfl dX12_isNearer_40 ?_
      refine td_ialdK ga_m_27 (gn_m_27 _) h2 dX12_isNearer_41 ?_
      refine td_icmp_ge (tgt := 49) rfl dX12_isNearer_42 ?_ ?_
      · refine ts_iconst rfl dX12_isNearer_49 ?_
        exact td_zretK (Or.inl rfl) rfl dX12_isNearer_50
      · refine ts_iconst rfl dX12_isNearer_45 ?_
        refine ts_goto (tgt := 50) rfl dX12_isNearer_46 ?_
        exact td_zretK (Or.inr rfl) rfl dX12_isNearer_50
    · refine ts_iconst rfl dX12_isNearer_49 ?_
      exact td_zretK (Or.inl rfl) rfl dX12_isNearer_50
def F_X12_nearest_4 : Nat → Int → Int → td_D → Option (Int × td_D)
  | 0, _, _, _ => none
  | n + 1, v1, v2, D =>
    if 100 ≤ v2 then
      some (v1, D)
    else
      if 0 ≤ v2 ∧ v2 < ((100 : Nat) : Int) then
        if D 29 (Int.toNat v2) = 0 then
          if 9999 ≤ D 27 (Int.toNat v2) then
            F_X12_nearest_4 n v1 (tv_w (v2 + 1)) D
          else
            if v1 < 0 then
              F_X12_nearest_4 n v2 (tv_w (v2 + 1)) D
            else
              td_b (F_X12_isNearer v2 v1 D) fun r2 D3 =>
              if r2 = 0 then
                F_X12_nearest_4 n v1 (tv_w (v2 + 1)) D3
              else
                F_X12_nearest_4 n v2 (tv_w (v2 + 1)) D3
        else
          F_X12_nearest_4 n v1 (tv_w (v2 + 1)) D
      else none
set_option maxHeartbeats 4000000 in
set_option maxRecDepth 20000 in
theorem S_X12_nearest_4 {l : Launch} {E : tv_E} (hE : tv_hE E) (d : Nat) : ∀ (n : Nat) (v1 : Int) (v2 : Int) (D : td_D), td_sim l E (d + 1) mX12_nearest g_m 4 [tv_R 1, tv_I v1, tv_I v2] [] D (F_X12_nearest_4 n v1 v2 D) := by
  intro n
  induction n with
  | zero => intros; exact tv_none
  | succ n ih =>
    intro v1 v2 D
    show td_sim _ _ _ _ _ _ _ _ _ (F_X12_nearest_4 (n + 1) v1 v2 D)
    unfold F_X12_nearest_4
    refine ts_iload_n (i := 2) rfl rfl dX12_nearest_4 ?_
    refine ts_bipush rfl dX12_nearest_5 ?_
    refine td_icmp_ge (tgt := 52) rfl dX12_nearest_7 ?_ ?_
    · refine ts_iload_n (i := 1) rfl rfl dX12_nearest_52 ?_
      exact td_iret rfl dX12_nearest_53
    · refine ts_aload_n (i := 0) rfl rfl dX12_nearest_10 ?_
      refine td_getR (q := 29) tl_X12_93 rfl ga_m_1 rfl dX12_nearest_11 ?_
      refine ts_iload_n (i := 2) rfl rfl dX12_nearest_14 ?_
      refine td_guard (fun h1 => ?_)
      refine td_zaldK ga_m_29 (gn_m_29 _) h1 dX12_nearest_15 ?_
      refine td_if_ne (tgt := 46) rfl dX12_nearest_16 ?_ ?_
      · refine ts_aload_n (i := 0) rfl rfl dX12_nearest_19 ?_
        refine td_getR (q := 27) tl_X12_87 rfl ga_m_1 rfl dX12_nearest_20 ?_
        refine ts_iload_n (i := 2) rfl rfl dX12_nearest_23 ?_
        refine td_ialdK ga_m_27 (gn_m_27 _) h1 dX12_nearest_24 ?_
        refine ts_sipush rfl dX12_nearest_25 ?_
        refine td_icmp_ge (tgt := 46) rfl dX12_nearest_28 ?_ ?_
        · refine tq_iinc [tv_R 1, tv_I v1, tv_I (tv_w (v2 + 1))] rfl rfl rfl dX12_nearest_46 ?_
          refine ts_goto (tgt := 4) rfl dX12_nearest_49 ?_
          exact ih v1 (tv_w (v2 + 1)) D
        · refine ts_iload_n (i := 1) rfl rfl dX12_nearest_31 ?_
          refine td_if_lt (tgt := 44) rfl dX12_nearest_32 ?_ ?_
          · refine ts_iload_n (i := 2) rfl rfl dX12_nearest_44 ?_
            refine tq_istore_n [tv_R 1, tv_I v2, tv_I v2] rfl (Nat.le_of_ble_eq_true rfl) rfl rfl dX12_nearest_45 ?_
            refine tq_iinc [tv_R 1, tv_I v2, tv_I (tv_w (v2 + 1))] rfl rfl rfl dX12_nearest_46 ?_
            refine ts_goto (tgt := 4) rfl dX12_nearest_49 ?_
            exact ih v2 (tv_w (v2 + 1)) D
          · refine ts_aload_n (i := 0) rfl rfl dX12_nearest_35 ?_
            refine ts_iload_n (i := 2) rfl rfl dX12_nearest_36 ?_
            refine ts_iload_n (i := 1) rfl rfl dX12_nearest_37 ?_
            refine tq_callV (y2 := mX12_isNearer) [tv_I v2, tv_I v1] [] 1 (st' := fun r2 => [tv_I r2]) tw_X12_isNearer tx_X12_isNearer tw_c12 ga_m_1 tl_X12_347 rfl rfl rfl rfl (fun _ => rfl) dX12_nearest_38 (S_X12_isNearer l hE _ v2 v1 D) (fun r2 D3 => ?_)
            refine td_if_eq (tgt := 46) rfl dX12_nearest_41 ?_ ?_
            · refine tq_iinc [tv_R 1, tv_I v1, tv_I (tv_w (v2 + 1))] rfl rfl rfl dX12_nearest_46 ?_
              refine ts_goto (tgt := 4) rfl dX12_nearest_49 ?_
              exact ih v1 (tv_w (v2 + 1)) D3
            · refine ts_iload_n (i := 2) rfl rfl dX12_nearest_44 ?_
              refine tq_istore_n [tv_R 1, tv_I v2, tv_I v2] rfl (Nat.le_of_ble_eq_true rfl) rfl rfl dX12_nearest_45 ?_
              refine tq_iinc [tv_R 1, tv_I v2, tv_I (tv_w (v2 + 1))] rfl rfl rfl dX12_nearest_46 ?_
              refine ts_goto (tgt := 4) rfl dX12_nearest_49 ?_
              exact ih v2 (tv_w (v2 + 1)) D3
      · refine tq_iinc [tv_R 1, tv_I v1, tv_I (tv_w (v2 + 1))] rfl rfl rfl dX12_nearest_46 ?_
        refine ts_goto (tgt := 4) rfl dX12_nearest_49 ?_
        exact ih v1 (tv_w (v2 + 1)) D
def F_X12_nearest (D : td_D) : Option (Int × td_D) :=
  F_X12_nearest_4 tf_N ((-1)) 0 D
set_option maxHeartbeats 4000000 in
set_option maxRecDepth 20000 in
theorem S_X12_nearest (l : Launch) {E : tv_E} (hE : tv_hE E) (d : Nat) (D : td_D) : td_msim l E (d + 1) mX12_nearest g_m [tv_R 1] D (F_X12_nearest D) := by
  refine td_meetL (ls := [tv_R 1, tv_U, tv_U]) rfl (Nat.le_of_ble_eq_true rfl) rfl ?_
  unfold F_X12_nearest
  refine ts_iconst rfl dX12_nearest_0 ?_
  refine tq_istore_n [tv_R 1, tv_I ((-1)), tv_U] rfl (Nat.le_of_ble_eq_true rfl) rfl rfl dX12_nearest_1 ?_
  refine ts_iconst rfl dX12_nearest_2 ?_
  refine tq_istore_n [tv_R 1, tv_I ((-1)), tv_I 0] rfl (Nat.le_of_ble_eq_true rfl) rfl rfl dX12_nearest_3 ?_
  exact S_X12_nearest_4 hE d tf_N ((-1)) 0 D
def F_X12_stepTo_85 (v2 : Int) (v4 : Int) (v5 : Int) (D : td_D) : Option (Int × td_D) :=
  if 0 ≤ v2 ∧ v2 < ((100 : Nat) : Int) then
    td_l (td_upd D 28 (Int.toNat v2) v4) fun D2 =>
    td_l (td_upd D2 27 (Int.toNat v2) v5) fun D3 =>
    some (0, D3)
  else none
set_option maxHeartbeats 4000000 in
set_option maxRecDepth 20000 in
theorem S_X12_stepTo_85 {l : Launch} {E : tv_E} (hE : tv_hE E) (d : Nat) (v2 : Int) (v4 : Int) (v5 : Int) (D : td_D) : td_sim l E (d + 0) mX12_stepTo g_m 85 [tv_R 1, tv_U, tv_I v2, tv_U, tv_I v4, tv_I v5] [] D (F_X12_stepTo_85 v2 v4 v5 D) := by
  unfold F_X12_stepTo_85
  refine ts_aload_n (i := 0) rfl rfl dX12_stepTo_85 ?_
  refine td_getR (q := 28) tl_X12_90 rfl ga_m_1 rfl dX12_stepTo_86 ?_
  refine ts_iload_n (i := 2) rfl rfl dX12_stepTo_89 ?_
  refine ts_iload rfl dX12_stepTo_90 ?_
  refine td_guard (fun h1 => ?_)
  refine td_iastK ga_m_28 (gn_m_28 _) h1 dX12_stepTo_92 ?_
  refine td_let (fun D2 => ?_)
  refine ts_aload_n (i := 0) rfl rfl dX12_stepTo_93 ?_
  refine td_getR (q := 27) tl_X12_87 rfl ga_m_1 rfl dX12_stepTo_94 ?_
  refine ts_iload_n (i := 2) rfl rfl dX12_stepTo_97 ?_
  refine ts_iload rfl dX12_stepTo_98 ?_
  refine td_iastK ga_m_27 (gn_m_27 _) h1 dX12_stepTo_100 ?_
  refine td_let (fun D3 => ?_)
  exact td_vret rfl dX12_stepTo_101
def F_X12_stepTo_14 (v1 : Int) (v2 : Int) (D : td_D) : Option (Int × td_D) :=
  if 0 ≤ v1 ∧ v1 < ((100 : Nat) : Int) then
    if 0 ≤ v2 ∧ v2 < ((100 : Nat) : Int) then
      if 9999 ≤ D 27 (Int.toNat v2) then
        F_X12_stepTo_85 v2 (tv_w ((D 28 (Int.toNat v1)) + (D 26 (Int.toNat v2)))) (tv_w ((D 27 (Int.toNat v1)) + 1)) D
      else
        if D 28 (Int.toNat v2) < tv_w ((D 28 (Int.toNat v1)) + (D 26 (Int.toNat v2))) then
          some (0, D)
        else
          if tv_w ((D 28 (Int.toNat v1)) + (D 26 (Int.toNat v2))) = D 28 (Int.toNat v2) then
            if tv_w ((D 27 (Int.toNat v1)) + 1) < D 27 (Int.toNat v2) then
              F_X12_stepTo_85 v2 (tv_w ((D 28 (Int.toNat v1)) + (D 26 (Int.toNat v2)))) (tv_w ((D 27 (Int.toNat v1)) + 1)) D
            else
              some (0, D)
          else
            F_X12_stepTo_85 v2 (tv_w ((D 28 (Int.toNat v1)) + (D 26 (Int.toNat v2)))) (tv_w ((D 27 (Int.toNat v1)) + 1)) D
    else none
  else none
set_option maxHeartbeats 4000000 in
set_option maxRecDepth 20000 in
theorem S_X12_stepTo_14 {l : Launch} {E : tv_E} (hE : tv_hE E) (d : Nat) (v1 : Int) (v2 : Int) (D : td_D) : td_sim l E (d + 0) mX12_stepTo g_m 14 [tv_R 1, tv_I v1, tv_I v2, tv_U, tv_U, tv_U] [] D (F_X12_stepTo_14 v1 v2 D) := by
  unfold F_X12_stepTo_14
  refine ts_aload_n (i := 0) rfl rfl dX12_stepTo_14 ?_
  refine td_getR (q := 28) tl_X12_90 rfl ga_m_1 rfl dX12_stepTo_15 ?_
  refine ts_iload_n (i := 1) rfl rfl dX12_stepTo_18 ?_
  refine td_guard (fun h4 => ?_)
  refine td_ialdK ga_m_28 (gn_m_28 _) h4 dX12_stepTo_19 ?_
  refine ts_aload_n (i := 0) rfl rfl dX12_stepTo_20 ?_
  refine td_getR (q := 26) tl_X12_84 rfl ga_m_1 rfl dX12_stepTo_21 ?_
  refine ts_iload_n (i := 2) rfl rfl dX12_stepTo_24 ?_
  refine td_guard (fun h5 => ?_)
  refine td_ialdK ga_m_26 (gn_m_26 _) h5 dX12_stepTo_25 ?_
  refine ts_iadd dX12_stepTo_26 ?_
  refine tq_istore [tv_R 1, tv_I v1, tv_I v2, tv_U, tv_I (tv_w ((D 28 (Int.toNat v1)) + (D 26 (Int.toNat v2)))), tv_U] (Nat.le_of_ble_eq_true rfl) rfl rfl dX12_stepTo_27 ?_
  refine ts_aload_n (i := 0) rfl rfl dX12_stepTo_29 ?_
  refine td_getR (q := 27) tl_X12_87 rfl ga_m_1 rfl dX12_stepTo_30 ?_
  refine ts_iload_n (i := 1) rfl rfl dX12_stepTo_33 ?_
  refine td_ialdK ga_m_27 (gn_m_27 _) h4 dX12_stepTo_34 ?_
  refine ts_iconst rfl dX12_stepTo_35 ?_
  refine ts_iadd dX12_stepTo_36 ?_
  refine tq_istore [tv_R 1, tv_I v1, tv_I v2, tv_U, tv_I (tv_w ((D 28 (Int.toNat v1)) + (D 26 (Int.toNat v2)))), tv_I (tv_w ((D 27 (Int.toNat v1)) + 1))] (Nat.le_of_ble_eq_true rfl) rfl rfl dX12_stepTo_37 ?_
  refine ts_aload_n (i := 0) rfl rfl dX12_stepTo_39 ?_
  refine td_getR (q := 27) tl_X12_87 rfl ga_m_1 rfl dX12_stepTo_40 ?_
  refine ts_iload_n (i := 2) rfl rfl dX12_stepTo_43 ?_
  refine td_ialdK ga_m_27 (gn_m_27 _) h5 dX12_stepTo_44 ?_
  refine ts_sipush rfl dX12_stepTo_45 ?_
  refine td_icmp_ge (tgt := 85) rfl dX12_stepTo_48 ?_ ?_
  · refine tv_weak (ls' := [tv_R 1, tv_U, tv_I v2, tv_U, tv_I (tv_w ((D 28 (Int.toNat v1)) + (D 26 (Int.toNat v2)))), tv_I (tv_w ((D 27 (Int.toNat v1)) + 1))]) ⟨Or.inr rfl, Or.inl rfl, Or.inr rfl, Or.inl rfl, Or.inr rfl, Or.inr rfl, trivial⟩ ?_
    exact S_X12_stepTo_85 hE d v2 (tv_w ((D 28 (Int.toNat v1)) + (D 26 (Int.toNat v2)))) (tv_w ((D 27 (Int.toNat v1)) + 1)) D
  · refine ts_iload rfl dX12_stepTo_51 ?_
    refine ts_aload_n (i := 0) rfl rfl dX12_stepTo_53 ?_
    refine td_getR (q := 28) tl_X12_90 rfl ga_m_1 rfl dX12_stepTo_54 ?_
    refine ts_iload_n (i := 2) rfl rfl dX12_stepTo_57 ?_
    refine td_ialdK ga_m_28 (gn_m_28 _) h5 dX12_stepTo_58 ?_
    refine td_icmp_gt (tgt := 84) rfl dX12_stepTo_59 ?_ ?_
    · exact td_vret rfl dX12_stepTo_84
    · refine ts_iload rfl dX12_stepTo_62 ?_
      refine ts_aload_n (i := 0) rfl rfl dX12_stepTo_64 ?_
      refine td_getR (q := 28) tl_X12_90 rfl ga_m_1 rfl dX12_stepTo_65 ?_
      refine ts_iload_n (i := 2) rfl rfl dX12_stepTo_68 ?_
      refine td_ialdK ga_m_28 (gn_m_28 _) h5 dX12_stepTo_69 ?_
      refine td_icmp_ne (tgt := 85) rfl dX12_stepTo_70 ?_ ?_
      · refine ts_iload rfl dX12_stepTo_73 ?_
        refine ts_aload_n (i := 0) rfl rfl dX12_stepTo_75 ?_
        refine td_getR (q := 27) tl_X12_87 rfl ga_m_1 rfl dX12_stepTo_76 ?_
        refine ts_iload_n (i := 2) rfl rfl dX12_stepTo_79 ?_
        refine td_ialdK ga_m_27 (gn_m_27 _) h5 dX12_stepTo_80 ?_
        refine td_icmp_lt (tgt := 85) rfl dX12_stepTo_81 ?_ ?_
        · refine tv_weak (ls' := [tv_R 1, tv_U, tv_I v2, tv_U, tv_I (tv_w ((D 28 (Int.toNat v1)) + (D 26 (Int.toNat v2)))), tv_I (tv_w ((D 27 (Int.toNat v1)) + 1))]) ⟨Or.inr rfl, Or.inl rfl, Or.inr rfl, Or.inl rfl, Or.inr rfl, Or.inr rfl, trivial⟩ ?_
          exact S_X12_stepTo_85 hE d v2 (tv_w ((D 28 (Int.toNat v1)) + (D 26 (Int.toNat v2)))) (tv_w ((D 27 (Int.toNat v1)) + 1)) D
        · exact td_vret rfl dX12_stepTo_84
      · refine tv_weak (ls' := [tv_R 1, tv_U, tv_I v2, tv_U, tv_I (tv_w ((D 28 (Int.toNat v1)) + (D 26 (Int.toNat v2)))), tv_I (tv_w ((D 27 (Int.toNat v1)) + 1))]) ⟨Or.inr rfl, Or.inl rfl, Or.inr rfl, Or.inl rfl, Or.inr rfl, Or.inr rfl, trivial⟩ ?_
        exact S_X12_stepTo_85 hE d v2 (tv_w ((D 28 (Int.toNat v1)) + (D 26 (Int.toNat v2)))) (tv_w ((D 27 (Int.toNat v1)) + 1)) D
def F_X12_stepTo (a1 : Int) (a2 : Int) (a3 : Int) (D : td_D) : Option (Int × td_D) :=
  if a3 = 0 then
    F_X12_stepTo_14 a1 a2 D
  else
    if 0 ≤ a2 ∧ a2 < ((100 : Nat) : Int) then
      if D 26 (Int.toNat a2) ≤ 0 then
        F_X12_stepTo_14 a1 a2 D
      else
        some (0, D)
    else none
set_option maxHeartbeats 4000000 in
set_option maxRecDepth 20000 in
theorem S_X12_stepTo (l : Launch) {E : tv_E} (hE : tv_hE E) (d : Nat) (a1 : Int) (a2 : Int) (a3 : Int) (D : td_D) : td_msim l E (d + 0) mX12_stepTo g_m [tv_R 1, tv_I a1, tv_I a2, tv_I a3] D (F_X12_stepTo a1 a2 a3 D) := by
  refine td_meetL (ls := [tv_R 1, tv_I a1, tv_I a2, tv_I a3, tv_U, tv_U]) rfl (Nat.le_of_ble_eq_true rfl) rfl ?_
  unfold F_X12_stepTo
  refine ts_iload_n (i := 3) rfl rfl dX12_stepTo_0 ?_
  refine td_if_eq (tgt := 14) rfl dX12_stepTo_1 ?_ ?_
  · refine tv_weak (ls' := [tv_R 1, tv_I a1, tv_I a2, tv_U, tv_U, tv_U]) ⟨Or.inr rfl, Or.inr rfl, Or.inr rfl, Or.inl rfl, Or.inl rfl, Or.inl rfl, trivial⟩ ?_
    exact S_X12_stepTo_14 hE d a1 a2 D
  · refine ts_aload_n (i := 0) rfl rfl dX12_stepTo_4 ?_
    refine td_getR (q := 26) tl_X12_84 rfl ga_m_1 rfl dX12_stepTo_5 ?_
    refine ts_iload_n (i := 2) rfl rfl dX12_stepTo_8 ?_
    refine td_guard (fun h6 => ?_)
    refine td_ialdK ga_m_26 (gn_m_26 _) h6 dX12_stepTo_9 ?_
    refine td_if_le (tgt := 14) rfl dX12_stepTo_10 ?_ ?_
    · refine tv_weak (ls' := [tv_R 1, tv_I a1, tv_I a2, tv_U, tv_U, tv_U]) ⟨Or.inr rfl, Or.inr rfl, Or.inr rfl, Or.inl rfl, Or.inl rfl, Or.inl rfl, trivial⟩ ?_
      exact S_X12_stepTo_14 hE d a1 a2 D
    · exact td_vret rfl dX12_stepTo_13
def F_X12_goWays_134 (k72 : Int → Int → td_D → Option (Int × td_D)) (v2 : Int) (v3 : Int) (D : td_D) : Option (Int × td_D) :=
  if 9 ≤ tv_div v3 10 then
    td_b (F_X12_nearest D) fun r1 D2 =>
    k72 v2 r1 D2
  else
    td_b (F_X12_stepTo v3 (tv_w (v3 + 10)) v2 D) fun _ D4 =>
    td_b (F_X12_nearest D4) fun r5 D6 =>
    k72 v2 r5 D6
set_option maxHeartbeats 4000000 in
set_option maxRecDepth 20000 in
theorem S_X12_goWays_134 {l : Launch} {E : tv_E} (hE : tv_hE E) (d : Nat) (k72 : Int → Int → td_D → Option (Int × td_D)) (hk72 : ∀ (v2 : Int) (v3 : Int) (D : td_D), td_sim l E (d + 2) mX12_goWays g_m 72 [tv_R 1, tv_U, tv_I v2, tv_I v3] [] D (k72 v2 v3 D)) (v2 : Int) (v3 : Int) (D : td_D) : td_sim l E (d + 2) mX12_goWays g_m 134 [tv_R 1, tv_U, tv_I v2, tv_I v3] [] D (F_X12_goWays_134 k72 v2 v3 D) := by
  unfold F_X12_goWays_134
  refine ts_iload_n (i := 3) rfl rfl dX12_goWays_134 ?_
  refine ts_bipush rfl dX12_goWays_135 ?_
  refine td_idivK (by decide) dX12_goWays_137 ?_
  refine ts_bipush rfl dX12_goWays_138 ?_
  refine td_icmp_ge (tgt := 153) rfl dX12_goWays_140 ?_ ?_
  · refine ts_aload_n (i := 0) rfl rfl dX12_goWays_153 ?_
    refine tq_callV (y2 := mX12_nearest) [] [] 1 (st' := fun r1 => [tv_I r1]) tw_X12_nearest tx_X12_nearest tw_c12 ga_m_1 tl_X12_354 rfl rfl rfl rfl (fun _ => rfl) dX12_goWays_154 (S_X12_nearest l hE _ D) (fun r1 D2 => ?_)
    refine tq_istore_n [tv_R 1, tv_U, tv_I v2, tv_I r1] rfl (Nat.le_of_ble_eq_true rfl) rfl rfl dX12_goWays_157 ?_
    refine ts_goto (tgt := 72) rfl dX12_goWays_158 ?_
    exact hk72 v2 r1 D2
  · refine ts_aload_n (i := 0) rfl rfl dX12_goWays_143 ?_
    refine ts_iload_n (i := 3) rfl rfl dX12_goWays_144 ?_
    refine ts_iload_n (i := 3) rfl rfl dX12_goWays_145 ?_
    refine ts_bipush rfl dX12_goWays_146 ?_
    refine ts_iadd dX12_goWays_148 ?_
    refine ts_iload_n (i := 2) rfl rfl dX12_goWays_149 ?_
    refine tq_callV (y2 := mX12_stepTo) [tv_I v3, tv_I (tv_w (v3 + 10)), tv_I v2] [] 1 (st' := fun _ => []) tw_X12_stepTo tx_X12_stepTo tw_c12 ga_m_1 tl_X12_350 rfl rfl rfl rfl (fun _ => rfl) dX12_goWays_150 (S_X12_stepTo l hE _ v3 (tv_w (v3 + 10)) v2 D) (fun r3 D4 => ?_)
    refine ts_aload_n (i := 0) rfl rfl dX12_goWays_153 ?_
    refine tq_callV (y2 := mX12_nearest) [] [] 1 (st' := fun r5 => [tv_I r5]) tw_X12_nearest tx_X12_nearest tw_c12 ga_m_1 tl_X12_354 rfl rfl rfl rfl (fun _ => rfl) dX12_goWays_154 (S_X12_nearest l hE _ D4) (fun r5 D6 => ?_)
    refine tq_istore_n [tv_R 1, tv_U, tv_I v2, tv_I r5] rfl (Nat.le_of_ble_eq_true rfl) rfl rfl dX12_goWays_157 ?_
    refine ts_goto (tgt := 72) rfl dX12_goWays_158 ?_
    exact hk72 v2 r5 D6
def F_X12_goWays_99 (k72 : Int → Int → td_D → Option (Int × td_D)) (v2 : Int) (v3 : Int) (D : td_D) : Option (Int × td_D) :=
  if 9 ≤ tv_rem v3 10 then
    if tv_div v3 10 ≤ 0 then
      F_X12_goWays_134 k72 v2 v3 D
    else
      td_b (F_X12_stepTo v3 (tv_w (v3 - 10)) v2 D) fun _ D8 =>
      F_X12_goWays_134 k72 v2 v3 D8
  else
    td_b (F_X12_stepTo v3 (tv_w (v3 + 1)) v2 D) fun _ D10 =>
    if tv_div v3 10 ≤ 0 then
      F_X12_goWays_134 k72 v2 v3 D10
    else
      td_b (F_X12_stepTo v3 (tv_w (v3 - 10)) v2 D10) fun _ D12 =>
      F_X12_goWays_134 k72 v2 v3 D12
set_option maxHeartbeats 4000000 in
set_option maxRecDepth 20000 in
theorem S_X12_goWays_99 {l : Launch} {E : tv_E} (hE : tv_hE E) (d : Nat) (k72 : Int → Int → td_D → Option (Int × td_D)) (hk72 : ∀ (v2 : Int) (v3 : Int) (D : td_D), td_sim l E (d + 2) mX12_goWays g_m 72 [tv_R 1, tv_U, tv_I v2, tv_I v3] [] D (k72 v2 v3 D)) (v2 : Int) (v3 : Int) (D : td_D) : td_sim l E (d + 2) mX12_goWays g_m 99 [tv_R 1, tv_U, tv_I v2, tv_I v3] [] D (F_X12_goWays_99 k72 v2 v3 D) := by
  unfold F_X12_goWays_99
  refine ts_iload_n (i := 3) rfl rfl dX12_goWays_99 ?_
  refine ts_bipush rfl dX12_goWays_100 ?_
  refine td_iremK (by decide) dX12_goWays_102 ?_
  refine ts_bipush rfl dX12_goWays_103 ?_
  refine td_icmp_ge (tgt := 117) rfl dX12_goWays_105 ?_ ?_
  · refine ts_iload_n (i := 3) rfl rfl dX12_goWays_117 ?_
    refine ts_bipush rfl dX12_goWays_118 ?_
    refine td_idivK (by decide) dX12_goWays_120 ?_
    refine td_if_le (tgt := 134) rfl dX12_goWays_121 ?_ ?_
    · exact S_X12_goWays_134 hE d k72 (hk72) v2 v3 D
    · refine ts_aload_n (i := 0) rfl rfl dX12_goWays_124 ?_
      refine ts_iload_n (i := 3) rfl rfl dX12_goWays_125 ?_
      refine ts_iload_n (i := 3) rfl rfl dX12_goWays_126 ?_
      refine ts_bipush rfl dX12_goWays_127 ?_
      refine ts_isub dX12_goWays_129 ?_
      refine ts_iload_n (i := 2) rfl rfl dX12_goWays_130 ?_
      refine tq_callV (y2 := mX12_stepTo) [tv_I v3, tv_I (tv_w (v3 - 10)), tv_I v2] [] 1 (st' := fun _ => []) tw_X12_stepTo tx_X12_stepTo tw_c12 ga_m_1 tl_X12_350 rfl rfl rfl rfl (fun _ => rfl) dX12_goWays_131 (S_X12_stepTo l hE _ v3 (tv_w (v3 - 10)) v2 D) (fun r7 D8 => ?_)
      exact S_X12_goWays_134 hE d k72 (hk72) v2 v3 D8
  · refine ts_aload_n (i := 0) rfl rfl dX12_goWays_108 ?_
    refine ts_iload_n (i := 3) rfl rfl dX12_goWays_109 ?_
    refine ts_iload_n (i := 3) rfl rfl dX12_goWays_110 ?_
    refine ts_iconst rfl dX12_goWays_111 ?_
    refine ts_iadd dX12_goWays_112 ?_
    refine ts_iload_n (i := 2) rfl rfl dX12_goWays_113 ?_
    refine tq_callV (y2 := mX12_stepTo) [tv_I v3, tv_I (tv_w (v3 + 1)), tv_I v2] [] 1 (st' := fun _ => []) tw_X12_stepTo tx_X12_stepTo tw_c12 ga_m_1 tl_X12_350 rfl rfl rfl rfl (fun _ => rfl) dX12_goWays_114 (S_X12_stepTo l hE _ v3 (tv_w (v3 + 1)) v2 D) (fun r9 D10 => ?_)
    refine ts_iload_n (i := 3) rfl rfl dX12_goWays_117 ?_
    refine ts_bipush rfl dX12_goWays_118 ?_
    refine td_idivK (by decide) dX12_goWays_120 ?_
    refine td_if_le (tgt := 134) rfl dX12_goWays_121 ?_ ?_
    · exact S_X12_goWays_134 hE d k72 (hk72) v2 v3 D10
    · refine ts_aload_n (i := 0) rfl rfl dX12_goWays_124 ?_
      refine ts_iload_n (i := 3) rfl rfl dX12_goWays_125 ?_
      refine ts_iload_n (i := 3) rfl rfl dX12_goWays_126 ?_
      refine ts_bipush rfl dX12_goWays_127 ?_
      refine ts_isub dX12_goWays_129 ?_
      refine ts_iload_n (i := 2) rfl rfl dX12_goWays_130 ?_
      refine tq_callV (y2 := mX12_stepTo) [tv_I v3, tv_I (tv_w (v3 - 10)), tv_I v2] [] 1 (st' := fun _ => []) tw_X12_stepTo tx_X12_stepTo tw_c12 ga_m_1 tl_X12_350 rfl rfl rfl rfl (fun _ => rfl) dX12_goWays_131 (S_X12_stepTo l hE _ v3 (tv_w (v3 - 10)) v2 D10) (fun r11 D12 => ?_)
      exact S_X12_goWays_134 hE d k72 (hk72) v2 v3 D12
def F_X12_goWays_72 : Nat → Int → Int → td_D → Option (Int × td_D)
  | 0, _, _, _ => none
  | n + 1, v2, v3, D =>
    if v3 < 0 then
      some (0, D)
    else
      if 0 ≤ v3 ∧ v3 < ((100 : Nat) : Int) then
        td_l (td_upd D 29 (Int.toNat v3) 1) fun D15 =>
        if tv_rem v3 10 ≤ 0 then
          F_X12_goWays_99 (fun v2 v3 D => F_X12_goWays_72 n v2 v3 D) v2 v3 D15
        else
          td_b (F_X12_stepTo v3 (tv_w (v3 - 1)) v2 D15) fun _ D17 =>
          F_X12_goWays_99 (fun v2 v3 D => F_X12_goWays_72 n v2 v3 D) v2 v3 D17
      else none
set_option maxHeartbeats 4000000 in
set_option maxRecDepth 20000 in
theorem S_X12_goWays_72 {l : Launch} {E : tv_E} (hE : tv_hE E) (d : Nat) : ∀ (n : Nat) (v2 : Int) (v3 : Int) (D : td_D), td_sim l E (d + 2) mX12_goWays g_m 72 [tv_R 1, tv_U, tv_I v2, tv_I v3] [] D (F_X12_goWays_72 n v2 v3 D) := by
  intro n
  induction n with
  | zero => intros; exact tv_none
  | succ n ih =>
    intro v2 v3 D
    show td_sim _ _ _ _ _ _ _ _ _ (F_X12_goWays_72 (n + 1) v2 v3 D)
    unfold F_X12_goWays_72
    refine ts_iload_n (i := 3) rfl rfl dX12_goWays_72 ?_
    refine td_if_lt (tgt := 161) rfl dX12_goWays_73 ?_ ?_
    · exact td_vret rfl dX12_goWays_161
    · refine ts_aload_n (i := 0) rfl rfl dX12_goWays_76 ?_
      refine td_getR (q := 29) tl_X12_93 rfl ga_m_1 rfl dX12_goWays_77 ?_
      refine ts_iload_n (i := 3) rfl rfl dX12_goWays_80 ?_
      refine ts_iconst rfl dX12_goWays_81 ?_
      refine td_guard (fun h14 => ?_)
      refine td_zastK ga_m_29 (gn_m_29 _) ⟨h14, Or.inr rfl⟩ dX12_goWays_82 ?_
      refine td_let (fun D15 => ?_)
      refine ts_iload_n (i := 3) rfl rfl dX12_goWays_83 ?_
      refine ts_bipush rfl dX12_goWays_84 ?_
      refine td_iremK (by decide) dX12_goWays_86 ?_
      refine td_if_le (tgt := 99) rfl dX12_goWays_87 ?_ ?_
      · exact S_X12_goWays_99 hE d (fun v2 v3 D => F_X12_goWays_72 n v2 v3 D) (fun v2 v3 D => ih v2 v3 D) v2 v3 D15
      · refine ts_aload_n (i := 0) rfl rfl dX12_goWays_90 ?_
        refine ts_iload_n (i := 3) rfl rfl dX12_goWays_91 ?_
        refine ts_iload_n (i := 3) rfl rfl dX12_goWays_92 ?_
        refine ts_iconst rfl dX12_goWays_93 ?_
        refine ts_isub dX12_goWays_94 ?_
        refine ts_iload_n (i := 2) rfl rfl dX12_goWays_95 ?_
        refine tq_callV (y2 := mX12_stepTo) [tv_I v3, tv_I (tv_w (v3 - 1)), tv_I v2] [] 1 (st' := fun _ => []) tw_X12_stepTo tx_X12_stepTo tw_c12 ga_m_1 tl_X12_350 rfl rfl rfl rfl (fun _ => rfl) dX12_goWays_96 (S_X12_stepTo l hE _ v3 (tv_w (v3 - 1)) v2 D15) (fun r16 D17 => ?_)
        exact S_X12_goWays_99 hE d (fun v2 v3 D => F_X12_goWays_72 n v2 v3 D) (fun v2 v3 D => ih v2 v3 D) v2 v3 D17
def F_X12_goWays_51 (v1 : Int) (v2 : Int) (D : td_D) : Option (Int × td_D) :=
  if 0 ≤ v1 ∧ v1 < ((100 : Nat) : Int) then
    td_l (td_upd D 27 (Int.toNat v1) 0) fun D19 =>
    td_l (td_upd D19 28 (Int.toNat v1) (D19 26 (Int.toNat v1))) fun D20 =>
    F_X12_goWays_72 tf_N v2 v1 D20
  else none
set_option maxHeartbeats 4000000 in
set_option maxRecDepth 20000 in
theorem S_X12_goWays_51 {l : Launch} {E : tv_E} (hE : tv_hE E) (d : Nat) (v1 : Int) (v2 : Int) (D : td_D) : td_sim l E (d + 2) mX12_goWays g_m 51 [tv_R 1, tv_I v1, tv_I v2, tv_U] [] D (F_X12_goWays_51 v1 v2 D) := by
  unfold F_X12_goWays_51
  refine ts_aload_n (i := 0) rfl rfl dX12_goWays_51 ?_
  refine td_getR (q := 27) tl_X12_87 rfl ga_m_1 rfl dX12_goWays_52 ?_
  refine ts_iload_n (i := 1) rfl rfl dX12_goWays_55 ?_
  refine ts_iconst rfl dX12_goWays_56 ?_
  refine td_guard (fun h18 => ?_)
  refine td_iastK ga_m_27 (gn_m_27 _) h18 dX12_goWays_57 ?_
  refine td_let (fun D19 => ?_)
  refine ts_aload_n (i := 0) rfl rfl dX12_goWays_58 ?_
  refine td_getR (q := 28) tl_X12_90 rfl ga_m_1 rfl dX12_goWays_59 ?_
  refine ts_iload_n (i := 1) rfl rfl dX12_goWays_62 ?_
  refine ts_aload_n (i := 0) rfl rfl dX12_goWays_63 ?_
  refine td_getR (q := 26) tl_X12_84 rfl ga_m_1 rfl dX12_goWays_64 ?_
  refine ts_iload_n (i := 1) rfl rfl dX12_goWays_67 ?_
  refine td_ialdK ga_m_26 (gn_m_26 _) h18 dX12_goWays_68 ?_
  refine td_iastK ga_m_28 (gn_m_28 _) h18 dX12_goWays_69 ?_
  refine td_let (fun D20 => ?_)
  refine ts_iload_n (i := 1) rfl rfl dX12_goWays_70 ?_
  refine tq_istore_n [tv_R 1, tv_I v1, tv_I v2, tv_I v1] rfl (Nat.le_of_ble_eq_true rfl) rfl rfl dX12_goWays_71 ?_
  refine tv_weak (ls' := [tv_R 1, tv_U, tv_I v2, tv_I v1]) ⟨Or.inr rfl, Or.inl rfl, Or.inr rfl, Or.inr rfl, trivial⟩ ?_
  exact S_X12_goWays_72 hE d tf_N v2 v1 D20
def F_X12_goWays_2 : Nat → Int → Int → Int → td_D → Option (Int × td_D)
  | 0, _, _, _, _ => none
  | n + 1, v1, v2, v3, D =>
    if 100 ≤ v3 then
      if v2 = 0 then
        F_X12_goWays_51 v1 v2 D
      else
        if 0 ≤ v1 ∧ v1 < ((100 : Nat) : Int) then
          if D 26 (Int.toNat v1) ≤ 0 then
            F_X12_goWays_51 v1 v2 D
          else
            some (0, D)
        else none
    else
      if 0 ≤ v3 ∧ v3 < ((100 : Nat) : Int) then
        td_l (td_upd D 27 (Int.toNat v3) 9999) fun D23 =>
        td_l (td_upd D23 28 (Int.toNat v3) 0) fun D24 =>
        td_l (td_upd D24 29 (Int.toNat v3) 0) fun D26 =>
        F_X12_goWays_2 n v1 v2 (tv_w (v3 + 1)) D26
      else none
set_option maxHeartbeats 4000000 in
set_option maxRecDepth 20000 in
theorem S_X12_goWays_2 {l : Launch} {E : tv_E} (hE : tv_hE E) (d : Nat) : ∀ (n : Nat) (v1 : Int) (v2 : Int) (v3 : Int) (D : td_D), td_sim l E (d + 2) mX12_goWays g_m 2 [tv_R 1, tv_I v1, tv_I v2, tv_I v3] [] D (F_X12_goWays_2 n v1 v2 v3 D) := by
  intro n
  induction n with
  | zero => intros; exact tv_none
  | succ n ih =>
    intro v1 v2 v3 D
    show td_sim _ _ _ _ _ _ _ _ _ (F_X12_goWays_2 (n + 1) v1 v2 v3 D)
    unfold F_X12_goWays_2
    refine ts_iload_n (i := 3) rfl rfl dX12_goWays_2 ?_
    refine ts_bipush rfl dX12_goWays_3 ?_
    refine td_icmp_ge (tgt := 37) rfl dX12_goWays_5 ?_ ?_
    · refine ts_iload_n (i := 2) rfl rfl dX12_goWays_37 ?_
      refine td_if_eq (tgt := 51) rfl dX12_goWays_38 ?_ ?_
      · refine tv_weak (ls' := [tv_R 1, tv_I v1, tv_I v2, tv_U]) ⟨Or.inr rfl, Or.inr rfl, Or.inr rfl, Or.inl rfl, trivial⟩ ?_
        exact S_X12_goWays_51 hE d v1 v2 D
      · refine ts_aload_n (i := 0) rfl rfl dX12_goWays_41 ?_
        refine td_getR (q := 26) tl_X12_84 rfl ga_m_1 rfl dX12_goWays_42 ?_
        refine ts_iload_n (i := 1) rfl rfl dX12_goWays_45 ?_
        refine td_guard (fun h21 => ?_)
        refine td_ialdK ga_m_26 (gn_m_26 _) h21 dX12_goWays_46 ?_
        refine td_if_le (tgt := 51) rfl dX12_goWays_47 ?_ ?_
        · refine tv_weak (ls' := [tv_R 1, tv_I v1, tv_I v2, tv_U]) ⟨Or.inr rfl, Or.inr rfl, Or.inr rfl, Or.inl rfl, trivial⟩ ?_
          exact S_X12_goWays_51 hE d v1 v2 D
        · exact td_vret rfl dX12_goWays_50
    · refine ts_aload_n (i := 0) rfl rfl dX12_goWays_8 ?_
      refine td_getR (q := 27) tl_X12_87 rfl ga_m_1 rfl dX12_goWays_9 ?_
      refine ts_iload_n (i := 3) rfl rfl dX12_goWays_12 ?_
      refine ts_sipush rfl dX12_goWays_13 ?_
      refine td_guard (fun h22 => ?_)
      refine td_iastK ga_m_27 (gn_m_27 _) h22 dX12_goWays_16 ?_
      refine td_let (fun D23 => ?_)
      refine ts_aload_n (i := 0) rfl rfl dX12_goWays_17 ?_
      refine td_getR (q := 28) tl_X12_90 rfl ga_m_1 rfl dX12_goWays_18 ?_
      refine ts_iload_n (i := 3) rfl rfl dX12_goWays_21 ?_
      refine ts_iconst rfl dX12_goWays_22 ?_
      refine td_iastK ga_m_28 (gn_m_28 _) h22 dX12_goWays_23 ?_
      refine td_let (fun D24 => ?_)
      refine ts_aload_n (i := 0) rfl rfl dX12_goWays_24 ?_
      refine td_getR (q := 29) tl_X12_93 rfl ga_m_1 rfl dX12_goWays_25 ?_
      refine ts_iload_n (i := 3) rfl rfl dX12_goWays_28 ?_
      refine ts_iconst rfl dX12_goWays_29 ?_
      refine td_zastK ga_m_29 (gn_m_29 _) ⟨h22, Or.inl rfl⟩ dX12_goWays_30 ?_
      refine td_let (fun D26 => ?_)
      refine tq_iinc [tv_R 1, tv_I v1, tv_I v2, tv_I (tv_w (v3 + 1))] rfl rfl rfl dX12_goWays_31 ?_
      refine ts_goto (tgt := 2) rfl dX12_goWays_34 ?_
      exact ih v1 v2 (tv_w (v3 + 1)) D26
def F_X12_goWays (a1 : Int) (a2 : Int) (D : td_D) : Option (Int × td_D) :=
  F_X12_goWays_2 tf_N a1 a2 0 D
set_option maxHeartbeats 4000000 in
set_option maxRecDepth 20000 in
theorem S_X12_goWays (l : Launch) {E : tv_E} (hE : tv_hE E) (d : Nat) (a1 : Int) (a2 : Int) (D : td_D) : td_msim l E (d + 2) mX12_goWays g_m [tv_R 1, tv_I a1, tv_I a2] D (F_X12_goWays a1 a2 D) := by
  refine td_meetL (ls := [tv_R 1, tv_I a1, tv_I a2, tv_U]) rfl (Nat.le_of_ble_eq_true rfl) rfl ?_
  unfold F_X12_goWays
  refine ts_iconst rfl dX12_goWays_0 ?_
  refine tq_istore_n [tv_R 1, tv_I a1, tv_I a2, tv_I 0] rfl (Nat.le_of_ble_eq_true rfl) rfl rfl dX12_goWays_1 ?_
  exact S_X12_goWays_2 hE d tf_N a1 a2 0 D
def F_X12_wayOf (a1 : Int) (a2 : Int) (D : td_D) : Option (Int × td_D) :=
  td_b (F_X12_goWays a1 1 D) fun _ D2 =>
  if 0 ≤ a2 ∧ a2 < ((100 : Nat) : Int) then
    if D2 27 (Int.toNat a2) = 9999 then
      some ((-2), D2)
    else
      some (D2 27 (Int.toNat a2), D2)
  else none
set_option maxHeartbeats 4000000 in
set_option maxRecDepth 20000 in
theorem S_X12_wayOf (l : Launch) {E : tv_E} (hE : tv_hE E) (d : Nat) (a1 : Int) (a2 : Int) (D : td_D) : td_msim l E (d + 3) mX12_wayOf g_m [tv_R 1, tv_I a1, tv_I a2] D (F_X12_wayOf a1 a2 D) := by
  refine td_meetL (ls := [tv_R 1, tv_I a1, tv_I a2]) rfl (Nat.le_of_ble_eq_true rfl) rfl ?_
  unfold F_X12_wayOf
  refine ts_aload_n (i := 0) rfl rfl dX12_wayOf_0 ?_
  refine ts_iload_n (i := 1) rfl rfl dX12_wayOf_1 ?_
  refine ts_iconst rfl dX12_wayOf_2 ?_
  refine tq_callV (y2 := mX12_goWays) [tv_I a1, tv_I 1] [] 1 (st' := fun _ => []) tw_X12_goWays tx_X12_goWays tw_c12 ga_m_1 tl_X12_357 rfl rfl rfl rfl (fun _ => rfl) dX12_wayOf_3 (S_X12_goWays l hE _ a1 1 D) (fun r1 D2 => ?_)
  refine ts_aload_n (i := 0) rfl rfl dX12_wayOf_6 ?_
  refine td_getR (q := 27) tl_X12_87 rfl ga_m_1 rfl dX12_wayOf_7 ?_
  refine ts_iload_n (i := 2) rfl rfl dX12_wayOf_10 ?_
  refine td_guard (fun h3 => ?_)
  refine td_ialdK ga_m_27 (gn_m_27 _) h3 dX12_wayOf_11 ?_
  refine ts_sipush rfl dX12_wayOf_12 ?_
  refine td_icmp_ne (tgt := 23) rfl dX12_wayOf_15 ?_ ?_
  · refine ts_bipush rfl dX12_wayOf_18 ?_
    refine ts_goto (tgt := 29) rfl dX12_wayOf_20 ?_
    exact td_iret rfl dX12_wayOf_29
  · refine ts_aload_n (i := 0) rfl rfl dX12_wayOf_23 ?_
    refine td_getR (q := 27) tl_X12_87 rfl ga_m_1 rfl dX12_wayOf_24 ?_
    refine ts_iload_n (i := 2) rfl rfl dX12_wayOf_27 ?_
    refine td_ialdK ga_m_27 (gn_m_27 _) h3 dX12_wayOf_28 ?_
    exact td_iret rfl dX12_wayOf_29
def F_X12_way (a1 : Int) (a2 : Int) (D : td_D) : Option (Int × td_D) :=
  td_b (F_X12_isCell a1 D) fun r1 D2 =>
  if r1 = 0 then
    some ((-1), D2)
  else
    td_b (F_X12_isCell a2 D2) fun r3 D4 =>
    if r3 = 0 then
      some ((-1), D4)
    else
      td_b (F_X12_layNow D4) fun _ D6 =>
      td_b (F_X12_findStings D6) fun _ D8 =>
      td_b (F_X12_wayOf a1 a2 D8) fun r9 D10 =>
      some (r9, D10)
set_option maxHeartbeats 4000000 in
set_option maxRecDepth 20000 in
theorem S_X12_way (l : Launch) {E : tv_E} (hE : tv_hE E) (d : Nat) (a1 : Int) (a2 : Int) (D : td_D) : td_msim l E (d + 5) mX12_way g_m [tv_R 1, tv_I a1, tv_I a2] D (F_X12_way a1 a2 D) := by
  refine td_meetL (ls := [tv_R 1, tv_I a1, tv_I a2]) rfl (Nat.le_of_ble_eq_true rfl) rfl ?_
  unfold F_X12_way
  refine ts_iload_n (i := 1) rfl rfl dX12_way_0 ?_
  refine tq_callS (y2 := mX12_isCell) [tv_I a1] [] (st' := fun r1 => [tv_I r1]) tw_X12_isCell tx_X12_isCell tl_X12_156 rfl rfl rfl rfl (fun _ => rfl) dX12_way_1 (S_X12_isCell l hE _ a1 D) (fun r1 D2 => ?_)
  refine td_if_eq (tgt := 14) rfl dX12_way_4 ?_ ?_
  · refine ts_iconst rfl dX12_way_14 ?_
    exact td_iret rfl dX12_way_15
  · refine ts_iload_n (i := 2) rfl rfl dX12_way_7 ?_
    refine tq_callS (y2 := mX12_isCell) [tv_I a2] [] (st' := fun r3 => [tv_I r3]) tw_X12_isCell tx_X12_isCell tl_X12_156 rfl rfl rfl rfl (fun _ => rfl) dX12_way_8 (S_X12_isCell l hE _ a2 D2) (fun r3 D4 => ?_)
    refine td_if_ne (tgt := 16) rfl dX12_way_11 ?_ ?_
    · refine ts_iconst rfl dX12_way_14 ?_
      exact td_iret rfl dX12_way_15
    · refine ts_aload_n (i := 0) rfl rfl dX12_way_16 ?_
      refine tq_callV (y2 := mX12_layNow) [] [] 1 (st' := fun _ => []) tw_X12_layNow tx_X12_layNow tw_c12 ga_m_1 tl_X12_289 rfl rfl rfl rfl (fun _ => rfl) dX12_way_17 (S_X12_layNow l hE _ D4) (fun r5 D6 => ?_)
      refine ts_aload_n (i := 0) rfl rfl dX12_way_20 ?_
      refine tq_callV (y2 := mX12_findStings) [] [] 1 (st' := fun _ => []) tw_X12_findStings tx_X12_findStings tw_c12 ga_m_1 tl_X12_361 rfl rfl rfl rfl (fun _ => rfl) dX12_way_21 (S_X12_findStings l hE _ D6) (fun r7 D8 => ?_)
      refine ts_aload_n (i := 0) rfl rfl dX12_way_24 ?_
      refine ts_iload_n (i := 1) rfl rfl dX12_way_25 ?_
      refine ts_iload_n (i := 2) rfl rfl dX12_way_26 ?_
      refine tq_callV (y2 := mX12_wayOf) [tv_I a1, tv_I a2] [] 1 (st' := fun r9 => [tv_I r9]) tw_X12_wayOf tx_X12_wayOf tw_c12 ga_m_1 tl_X12_364 rfl rfl rfl rfl (fun _ => rfl) dX12_way_27 (S_X12_wayOf l hE _ a1 a2 D8) (fun r9 D10 => ?_)
      exact td_iret rfl dX12_way_30
def F_X12_least (a1 : Int) (a2 : Int) (a3 : Int) (D : td_D) : Option (Int × td_D) :=
  td_b (F_X12_isCell a1 D) fun r1 D2 =>
  if r1 = 0 then
    some ((-1), D2)
  else
    td_b (F_X12_isCell a2 D2) fun r3 D4 =>
    if r3 = 0 then
      some ((-1), D4)
    else
      td_b (F_X12_in a3 0 1 D4) fun r5 D6 =>
      if r5 = 0 then
        some ((-1), D6)
      else
        td_b (F_X12_layNow D6) fun _ D8 =>
        td_b (F_X12_findStings D8) fun _ D10 =>
        td_b (F_X12_goWays a1 0 D10) fun _ D12 =>
        if a3 = 0 then
          if 0 ≤ a2 ∧ a2 < ((100 : Nat) : Int) then
            some (D12 28 (Int.toNat a2), D12)
          else none
        else
          if 0 ≤ a2 ∧ a2 < ((100 : Nat) : Int) then
            some (D12 27 (Int.toNat a2), D12)
          else none
set_option maxHeartbeats 4000000 in
set_option maxRecDepth 20000 in
theorem S_X12_least (l : Launch) {E : tv_E} (hE : tv_hE E) (d : Nat) (a1 : Int) (a2 : Int) (a3 : Int) (D : td_D) : td_msim l E (d + 5) mX12_least g_m [tv_R 1, tv_I a1, tv_I a2, tv_I a3] D (F_X12_least a1 a2 a3 D) := by
  refine td_meetL (ls := [tv_R 1, tv_I a1, tv_I a2, tv_I a3]) rfl (Nat.le_of_ble_eq_true rfl) rfl ?_
  unfold F_X12_least
  refine ts_iload_n (i := 1) rfl rfl dX12_least_0 ?_
  refine tq_callS (y2 := mX12_isCell) [tv_I a1] [] (st' := fun r1 => [tv_I r1]) tw_X12_isCell tx_X12_isCell tl_X12_156 rfl rfl rfl rfl (fun _ => rfl) dX12_least_1 (S_X12_isCell l hE _ a1 D) (fun r1 D2 => ?_)
  refine td_if_eq (tgt := 23) rfl dX12_least_4 ?_ ?_
  · refine ts_iconst rfl dX12_least_23 ?_
    exact td_iret rfl dX12_least_24
  · refine ts_iload_n (i := 2) rfl rfl dX12_least_7 ?_
    refine tq_callS (y2 := mX12_isCell) [tv_I a2] [] (st' := fun r3 => [tv_I r3]) tw_X12_isCell tx_X12_isCell tl_X12_156 rfl rfl rfl rfl (fun _ => rfl) dX12_least_8 (S_X12_isCell l hE _ a2 D2) (fun r3 D4 => ?_)
    refine td_if_eq (tgt := 23) rfl dX12_least_11 ?_ ?_
    · refine ts_iconst rfl dX12_least_23 ?_
      exact td_iret rfl dX12_least_24
    · refine ts_iload_n (i := 3) rfl rfl dX12_least_14 ?_
      refine ts_iconst rfl dX12_least_15 ?_
      refine ts_iconst rfl dX12_least_16 ?_
      refine tq_callS (y2 := mX12_in) [tv_I a3, tv_I 0, tv_I 1] [] (st' := fun r5 => [tv_I r5]) tw_X12_in tx_X12_in tl_X12_142 rfl rfl rfl rfl (fun _ => rfl) dX12_least_17 (S_X12_in l hE _ a3 0 1 D4) (fun r5 D6 => ?_)
      refine td_if_ne (tgt := 25) rfl dX12_least_20 ?_ ?_
      · refine ts_iconst rfl dX12_least_23 ?_
        exact td_iret rfl dX12_least_24
      · refine ts_aload_n (i := 0) rfl rfl dX12_least_25 ?_
        refine tq_callV (y2 := mX12_layNow) [] [] 1 (st' := fun _ => []) tw_X12_layNow tx_X12_layNow tw_c12 ga_m_1 tl_X12_289 rfl rfl rfl rfl (fun _ => rfl) dX12_least_26 (S_X12_layNow l hE _ D6) (fun r7 D8 => ?_)
        refine ts_aload_n (i := 0) rfl rfl dX12_least_29 ?_
        refine tq_callV (y2 := mX12_findStings) [] [] 1 (st' := fun _ => []) tw_X12_findStings tx_X12_findStings tw_c12 ga_m_1 tl_X12_361 rfl rfl rfl rfl (fun _ => rfl) dX12_least_30 (S_X12_findStings l hE _ D8) (fun r9 D10 => ?_)
        refine ts_aload_n (i := 0) rfl rfl dX12_least_33 ?_
        refine ts_iload_n (i := 1) rfl rfl dX12_least_34 ?_
        refine ts_iconst rfl dX12_least_35 ?_
        refine tq_callV (y2 := mX12_goWays) [tv_I a1, tv_I 0] [] 1 (st' := fun _ => []) tw_X12_goWays tx_X12_goWays tw_c12 ga_m_1 tl_X12_357 rfl rfl rfl rfl (fun _ => rfl) dX12_least_36 (S_X12_goWays l hE _ a1 0 D10) (fun r11 D12 => ?_)
        refine ts_iload_n (i := 3) rfl rfl dX12_least_39 ?_
        refine td_if_ne (tgt := 52) rfl dX12_least_40 ?_ ?_
        · refine ts_aload_n (i := 0) rfl rfl dX12_least_43 ?_
          refine td_getR (q := 28) tl_X12_90 rfl ga_m_1 rfl dX12_least_44 ?_
          refine ts_iload_n (i := 2) rfl rfl dX12_least_47 ?_
          refine td_guard (fun h13 => ?_)
          refine td_ialdK ga_m_28 (gn_m_28 _) h13 dX12_least_48 ?_
          refine ts_goto (tgt := 58) rfl dX12_least_49 ?_
          exact td_iret rfl dX12_least_58
        · refine ts_aload_n (i := 0) rfl rfl dX12_least_52 ?_
          refine td_getR (q := 27) tl_X12_87 rfl ga_m_1 rfl dX12_least_53 ?_
          refine ts_iload_n (i := 2) rfl rfl dX12_least_56 ?_
          refine td_guard (fun h14 => ?_)
          refine td_ialdK ga_m_27 (gn_m_27 _) h14 dX12_least_57 ?_
          exact td_iret rfl dX12_least_58
def F_X12_sets_6 : Nat → Int → Int → Int → Int → Int → td_D → Option (Int × td_D)
  | 0, _, _, _, _, _, _ => none
  | n + 1, v1, v2, v3, v4, v5, D =>
    if 100 ≤ v5 then
      some (v4, D)
    else
      td_b (F_X12_stingsIn v1 v2 v5 D) fun r1 D2 =>
      if r1 = 0 then
        F_X12_sets_6 n v1 v2 v3 v4 (tv_w (v5 + 1)) D2
      else
        if 0 ≤ v5 ∧ v5 < ((100 : Nat) : Int) then
          td_l (td_upd D2 26 (Int.toNat v5) (tv_w ((D2 26 (Int.toNat v5)) + v3))) fun D4 =>
          F_X12_sets_6 n v1 v2 v3 (tv_w (v4 + 1)) (tv_w (v5 + 1)) D4
        else none
set_option maxHeartbeats 4000000 in
set_option maxRecDepth 20000 in
theorem S_X12_sets_6 {l : Launch} {E : tv_E} (hE : tv_hE E) (d : Nat) : ∀ (n : Nat) (v1 : Int) (v2 : Int) (v3 : Int) (v4 : Int) (v5 : Int) (D : td_D), td_sim l E (d + 3) mX12_sets g_m 6 [tv_R 1, tv_I v1, tv_I v2, tv_I v3, tv_I v4, tv_I v5] [] D (F_X12_sets_6 n v1 v2 v3 v4 v5 D) := by
  intro n
  induction n with
  | zero => intros; exact tv_none
  | succ n ih =>
    intro v1 v2 v3 v4 v5 D
    show td_sim _ _ _ _ _ _ _ _ _ (F_X12_sets_6 (n + 1) v1 v2 v3 v4 v5 D)
    unfold F_X12_sets_6
    refine ts_iload rfl dX12_sets_6 ?_
    refine ts_bipush rfl dX12_sets_8 ?_
    refine td_icmp_ge (tgt := 47) rfl dX12_sets_10 ?_ ?_
    · refine ts_iload rfl dX12_sets_47 ?_
      exact td_iret rfl dX12_sets_49
    · refine ts_aload_n (i := 0) rfl rfl dX12_sets_13 ?_
      refine ts_iload_n (i := 1) rfl rfl dX12_sets_14 ?_
      refine ts_iload_n (i := 2) rfl rfl dX12_sets_15 ?_
      refine ts_iload rfl dX12_sets_16 ?_
      refine tq_callV (y2 := mX12_stingsIn) [tv_I v1, tv_I v2, tv_I v5] [] 1 (st' := fun r1 => [tv_I r1]) tw_X12_stingsIn tx_X12_stingsIn tw_c12 ga_m_1 tl_X12_341 rfl rfl rfl rfl (fun _ => rfl) dX12_sets_18 (S_X12_stingsIn l hE _ v1 v2 v5 D) (fun r1 D2 => ?_)
      refine td_if_ne (tgt := 27) rfl dX12_sets_21 ?_ ?_
      · refine ts_goto (tgt := 41) rfl dX12_sets_24 ?_
        refine tq_iinc [tv_R 1, tv_I v1, tv_I v2, tv_I v3, tv_I v4, tv_I (tv_w (v5 + 1))] rfl rfl rfl dX12_sets_41 ?_
        refine ts_goto (tgt := 6) rfl dX12_sets_44 ?_
        exact ih v1 v2 v3 v4 (tv_w (v5 + 1)) D2
      · refine ts_aload_n (i := 0) rfl rfl dX12_sets_27 ?_
        refine td_getR (q := 26) tl_X12_84 rfl ga_m_1 rfl dX12_sets_28 ?_
        refine ts_iload rfl dX12_sets_31 ?_
        refine ts_dup2 dX12_sets_33 ?_
        refine td_guard (fun h3 => ?_)
        refine td_ialdK ga_m_26 (gn_m_26 _) h3 dX12_sets_34 ?_
        refine ts_iload_n (i := 3) rfl rfl dX12_sets_35 ?_
        refine ts_iadd dX12_sets_36 ?_
        refine td_iastK ga_m_26 (gn_m_26 _) h3 dX12_sets_37 ?_
        refine td_let (fun D4 => ?_)
        refine tq_iinc [tv_R 1, tv_I v1, tv_I v2, tv_I v3, tv_I (tv_w (v4 + 1)), tv_I v5] rfl rfl rfl dX12_sets_38 ?_
        refine tq_iinc [tv_R 1, tv_I v1, tv_I v2, tv_I v3, tv_I (tv_w (v4 + 1)), tv_I (tv_w (v5 + 1))] rfl rfl rfl dX12_sets_41 ?_
        refine ts_goto (tgt := 6) rfl dX12_sets_44 ?_
        exact ih v1 v2 v3 (tv_w (v4 + 1)) (tv_w (v5 + 1)) D4
def F_X12_sets (a1 : Int) (a2 : Int) (a3 : Int) (D : td_D) : Option (Int × td_D) :=
  F_X12_sets_6 tf_N a1 a2 a3 0 0 D
set_option maxHeartbeats 4000000 in
set_option maxRecDepth 20000 in
theorem S_X12_sets (l : Launch) {E : tv_E} (hE : tv_hE E) (d : Nat) (a1 : Int) (a2 : Int) (a3 : Int) (D : td_D) : td_msim l E (d + 3) mX12_sets g_m [tv_R 1, tv_I a1, tv_I a2, tv_I a3] D (F_X12_sets a1 a2 a3 D) := by
  refine td_meetL (ls := [tv_R 1, tv_I a1, tv_I a2, tv_I a3, tv_U, tv_U]) rfl (Nat.le_of_ble_eq_true rfl) rfl ?_
  unfold F_X12_sets
  refine ts_iconst rfl dX12_sets_0 ?_
  refine tq_istore [tv_R 1, tv_I a1, tv_I a2, tv_I a3, tv_I 0, tv_U] (Nat.le_of_ble_eq_true rfl) rfl rfl dX12_sets_1 ?_
  refine ts_iconst rfl dX12_sets_3 ?_
  refine tq_istore [tv_R 1, tv_I a1, tv_I a2, tv_I a3, tv_I 0, tv_I 0] (Nat.le_of_ble_eq_true rfl) rfl rfl dX12_sets_4 ?_
  exact S_X12_sets_6 hE d tf_N a1 a2 a3 0 0 D
def F_X12_set_65 : Nat → Int → Int → Int → Int → Int → Int → Int → td_D → Option (Int × td_D)
  | 0, _, _, _, _, _, _, _, _ => none
  | n + 1, v1, v2, v3, v4, v5, v6, v7, D =>
    if 100 ≤ v7 then
      if v3 = 0 then
        some (v5, D)
      else
        some (v6, D)
    else
      if v4 < 0 then
        if v3 = 0 then
          some (v5, D)
        else
          some (v6, D)
      else
        td_b (F_X12_stingsTo v2 D) fun r1 D2 =>
        td_b (F_X12_sets v7 r1 1 D2) fun r3 D4 =>
        td_b (F_X12_wayOf (tv_div v1 100) (tv_rem v1 100) D4) fun r5 D6 =>
        td_b (F_X12_stingsTo v2 D6) fun r7 D8 =>
        td_b (F_X12_sets v7 r7 ((-1)) D8) fun r9 D10 =>
        if r5 = v4 then
          if v5 < 0 then
            F_X12_set_65 n v1 v2 v3 v4 v7 r3 (tv_w (v7 + 1)) D10
          else
            if v6 < r3 then
              F_X12_set_65 n v1 v2 v3 v4 v7 r3 (tv_w (v7 + 1)) D10
            else
              F_X12_set_65 n v1 v2 v3 v4 v5 v6 (tv_w (v7 + 1)) D10
        else
          F_X12_set_65 n v1 v2 v3 v4 v5 v6 (tv_w (v7 + 1)) D10
set_option maxHeartbeats 4000000 in
set_option maxRecDepth 20000 in
theorem S_X12_set_65 {l : Launch} {E : tv_E} (hE : tv_hE E) (d : Nat) : ∀ (n : Nat) (v1 : Int) (v2 : Int) (v3 : Int) (v4 : Int) (v5 : Int) (v6 : Int) (v7 : Int) (D : td_D), td_sim l E (d + 5) mX12_set g_m 65 [tv_R 1, tv_I v1, tv_I v2, tv_I v3, tv_I v4, tv_I v5, tv_I v6, tv_I v7, tv_U, tv_U] [] D (F_X12_set_65 n v1 v2 v3 v4 v5 v6 v7 D) := by
  intro n
  induction n with
  | zero => intros; exact tv_none
  | succ n ih =>
    intro v1 v2 v3 v4 v5 v6 v7 D
    show td_sim _ _ _ _ _ _ _ _ _ (F_X12_set_65 (n + 1) v1 v2 v3 v4 v5 v6 v7 D)
    unfold F_X12_set_65
    refine ts_iload rfl dX12_set_65 ?_
    refine ts_bipush rfl dX12_set_67 ?_
    refine td_icmp_ge (tgt := 154) rfl dX12_set_69 ?_ ?_
    · refine ts_iload_n (i := 3) rfl rfl dX12_set_154 ?_
      refine td_if_ne (tgt := 163) rfl dX12_set_155 ?_ ?_
      · refine ts_iload rfl dX12_set_158 ?_
        refine ts_goto (tgt := 165) rfl dX12_set_160 ?_
        exact td_iret rfl dX12_set_165
      · refine ts_iload rfl dX12_set_163 ?_
        exact td_iret rfl dX12_set_165
    · refine ts_iload rfl dX12_set_72 ?_
      refine td_if_lt (tgt := 154) rfl dX12_set_74 ?_ ?_
      · refine ts_iload_n (i := 3) rfl rfl dX12_set_154 ?_
        refine td_if_ne (tgt := 163) rfl dX12_set_155 ?_ ?_
        · refine ts_iload rfl dX12_set_158 ?_
          refine ts_goto (tgt := 165) rfl dX12_set_160 ?_
          exact td_iret rfl dX12_set_165
        · refine ts_iload rfl dX12_set_163 ?_
          exact td_iret rfl dX12_set_165
      · refine ts_aload_n (i := 0) rfl rfl dX12_set_77 ?_
        refine ts_iload rfl dX12_set_78 ?_
        refine ts_aload_n (i := 0) rfl rfl dX12_set_80 ?_
        refine ts_iload_n (i := 2) rfl rfl dX12_set_81 ?_
        refine tq_callV (y2 := mX12_stingsTo) [tv_I v2] [tv_I v7, tv_R 1] 1 (st' := fun r1 => [tv_I r1, tv_I v7, tv_R 1]) tw_X12_stingsTo tx_X12_stingsTo tw_c12 ga_m_1 tl_X12_295 rfl rfl rfl rfl (fun _ => rfl) dX12_set_82 (S_X12_stingsTo l hE _ v2 D) (fun r1 D2 => ?_)
        refine ts_iconst rfl dX12_set_85 ?_
        refine tq_callV (y2 := mX12_sets) [tv_I v7, tv_I r1, tv_I 1] [] 1 (st' := fun r3 => [tv_I r3]) tw_X12_sets tx_X12_sets tw_c12 ga_m_1 tl_X12_367 rfl rfl rfl rfl (fun _ => rfl) dX12_set_86 (S_X12_sets l hE _ v7 r1 1 D2) (fun r3 D4 => ?_)
        refine tq_istore [tv_R 1, tv_I v1, tv_I v2, tv_I v3, tv_I v4, tv_I v5, tv_I v6, tv_I v7, tv_I r3, tv_U] (Nat.le_of_ble_eq_true rfl) rfl rfl dX12_set_89 ?_
        refine ts_aload_n (i := 0) rfl rfl dX12_set_91 ?_
        refine ts_iload_n (i := 1) rfl rfl dX12_set_92 ?_
        refine ts_bipush rfl dX12_set_93 ?_
        refine td_idivK (by decide) dX12_set_95 ?_
        refine ts_iload_n (i := 1) rfl rfl dX12_set_96 ?_
        refine ts_bipush rfl dX12_set_97 ?_
        refine td_iremK (by decide) dX12_set_99 ?_
        refine tq_callV (y2 := mX12_wayOf) [tv_I (tv_div v1 100), tv_I (tv_rem v1 100)] [] 1 (st' := fun r5 => [tv_I r5]) tw_X12_wayOf tx_X12_wayOf tw_c12 ga_m_1 tl_X12_364 rfl rfl rfl rfl (fun _ => rfl) dX12_set_100 (S_X12_wayOf l hE _ (tv_div v1 100) (tv_rem v1 100) D4) (fun r5 D6 => ?_)
        refine tq_istore [tv_R 1, tv_I v1, tv_I v2, tv_I v3, tv_I v4, tv_I v5, tv_I v6, tv_I v7, tv_I r3, tv_I r5] (Nat.le_of_ble_eq_true rfl) rfl rfl dX12_set_103 ?_
        refine ts_aload_n (i := 0) rfl rfl dX12_set_105 ?_
        refine ts_iload rfl dX12_set_106 ?_
        refine ts_aload_n (i := 0) rfl rfl dX12_set_108 ?_
        refine ts_iload_n (i := 2) rfl rfl dX12_set_109 ?_
        refine tq_callV (y2 := mX12_stingsTo) [tv_I v2] [tv_I v7, tv_R 1] 1 (st' := fun r7 => [tv_I r7, tv_I v7, tv_R 1]) tw_X12_stingsTo tx_X12_stingsTo tw_c12 ga_m_1 tl_X12_295 rfl rfl rfl rfl (fun _ => rfl) dX12_set_110 (S_X12_stingsTo l hE _ v2 D6) (fun r7 D8 => ?_)
        refine ts_iconst rfl dX12_set_113 ?_
        refine tq_callV (y2 := mX12_sets) [tv_I v7, tv_I r7, tv_I ((-1))] [] 1 (st' := fun r9 => [tv_I r9]) tw_X12_sets tx_X12_sets tw_c12 ga_m_1 tl_X12_367 rfl rfl rfl rfl (fun _ => rfl) dX12_set_114 (S_X12_sets l hE _ v7 r7 ((-1)) D8) (fun r9 D10 => ?_)
        refine ts_popI dX12_set_117 ?_
        refine ts_iload rfl dX12_set_118 ?_
        refine ts_iload rfl dX12_set_120 ?_
        refine td_icmp_ne (tgt := 148) rfl dX12_set_122 ?_ ?_
        · refine ts_iload rfl dX12_set_125 ?_
          refine td_if_lt (tgt := 140) rfl dX12_set_127 ?_ ?_
          · refine ts_iload rfl dX12_set_140 ?_
            refine tq_istore [tv_R 1, tv_I v1, tv_I v2, tv_I v3, tv_I v4, tv_I v7, tv_I v6, tv_I v7, tv_I r3, tv_I r5] (Nat.le_of_ble_eq_true rfl) rfl rfl dX12_set_142 ?_
            refine ts_iload rfl dX12_set_144 ?_
            refine tq_istore [tv_R 1, tv_I v1, tv_I v2, tv_I v3, tv_I v4, tv_I v7, tv_I r3, tv_I v7, tv_I r3, tv_I r5] (Nat.le_of_ble_eq_true rfl) rfl rfl dX12_set_146 ?_
            refine tq_iinc [tv_R 1, tv_I v1, tv_I v2, tv_I v3, tv_I v4, tv_I v7, tv_I r3, tv_I (tv_w (v7 + 1)), tv_I r3, tv_I r5] rfl rfl rfl dX12_set_148 ?_
            refine ts_goto (tgt := 65) rfl dX12_set_151 ?_
            refine tv_weak (ls' := [tv_R 1, tv_I v1, tv_I v2, tv_I v3, tv_I v4, tv_I v7, tv_I r3, tv_I (tv_w (v7 + 1)), tv_U, tv_U]) ⟨Or.inr rfl, Or.inr rfl, Or.inr rfl, Or.inr rfl, Or.inr rfl, Or.inr rfl, Or.inr rfl, Or.inr rfl, Or.inl rfl, Or.inl rfl, trivial⟩ ?_
            exact ih v1 v2 v3 v4 v7 r3 (tv_w (v7 + 1)) D10
          · refine ts_iload rfl dX12_set_130 ?_
            refine ts_iload rfl dX12_set_132 ?_
            refine td_icmp_gt (tgt := 140) rfl dX12_set_134 ?_ ?_
            · refine ts_iload rfl dX12_set_140 ?_
              refine tq_istore [tv_R 1, tv_I v1, tv_I v2, tv_I v3, tv_I v4, tv_I v7, tv_I v6, tv_I v7, tv_I r3, tv_I r5] (Nat.le_of_ble_eq_true rfl) rfl rfl dX12_set_142 ?_
              refine ts_iload rfl dX12_set_144 ?_
              refine tq_istore [tv_R 1, tv_I v1, tv_I v2, tv_I v3, tv_I v4, tv_I v7, tv_I r3, tv_I v7, tv_I r3, tv_I r5] (Nat.le_of_ble_eq_true rfl) rfl rfl dX12_set_146 ?_
              refine tq_iinc [tv_R 1, tv_I v1, tv_I v2, tv_I v3, tv_I v4, tv_I v7, tv_I r3, tv_I (tv_w (v7 + 1)), tv_I r3, tv_I r5] rfl rfl rfl dX12_set_148 ?_
              refine ts_goto (tgt := 65) rfl dX12_set_151 ?_
              refine tv_weak (ls' := [tv_R 1, tv_I v1, tv_I v2, tv_I v3, tv_I v4, tv_I v7, tv_I r3, tv_I (tv_w (v7 + 1)), tv_U, tv_U]) ⟨Or.inr rfl, Or.inr rfl, Or.inr rfl, Or.inr rfl, Or.inr rfl, Or.inr rfl, Or.inr rfl, Or.inr rfl, Or.inl rfl, Or.inl rfl, trivial⟩ ?_
              exact ih v1 v2 v3 v4 v7 r3 (tv_w (v7 + 1)) D10
            · refine ts_goto (tgt := 148) rfl dX12_set_137 ?_
              refine tq_iinc [tv_R 1, tv_I v1, tv_I v2, tv_I v3, tv_I v4, tv_I v5, tv_I v6, tv_I (tv_w (v7 + 1)), tv_I r3, tv_I r5] rfl rfl rfl dX12_set_148 ?_
              refine ts_goto (tgt := 65) rfl dX12_set_151 ?_
              refine tv_weak (ls' := [tv_R 1, tv_I v1, tv_I v2, tv_I v3, tv_I v4, tv_I v5, tv_I v6, tv_I (tv_w (v7 + 1)), tv_U, tv_U]) ⟨Or.inr rfl, Or.inr rfl, Or.inr rfl, Or.inr rfl, Or.inr rfl, Or.inr rfl, Or.inr rfl, Or.inr rfl, Or.inl rfl, Or.inl rfl, trivial⟩ ?_
              exact ih v1 v2 v3 v4 v5 v6 (tv_w (v7 + 1)) D10
        · refine tq_iinc [tv_R 1, tv_I v1, tv_I v2, tv_I v3, tv_I v4, tv_I v5, tv_I v6, tv_I (tv_w (v7 + 1)), tv_I r3, tv_I r5] rfl rfl rfl dX12_set_148 ?_
          refine ts_goto (tgt := 65) rfl dX12_set_151 ?_
          refine tv_weak (ls' := [tv_R 1, tv_I v1, tv_I v2, tv_I v3, tv_I v4, tv_I v5, tv_I v6, tv_I (tv_w (v7 + 1)), tv_U, tv_U]) ⟨Or.inr rfl, Or.inr rfl, Or.inr rfl, Or.inr rfl, Or.inr rfl, Or.inr rfl, Or.inr rfl, Or.inr rfl, Or.inl rfl, Or.inl rfl, trivial⟩ ?_
          exact ih v1 v2 v3 v4 v5 v6 (tv_w (v7 + 1)) D10
def F_X12_set (a1 : Int) (a2 : Int) (a3 : Int) (D : td_D) : Option (Int × td_D) :=
  if a1 < 0 then
    some ((-1), D)
  else
    td_b (F_X12_isCell (tv_div a1 100) D) fun r11 D12 =>
    if r11 = 0 then
      some ((-1), D12)
    else
      td_b (F_X12_isMuch a2 D12) fun r13 D14 =>
      if r13 = 0 then
        some ((-1), D14)
      else
        td_b (F_X12_in a3 0 1 D14) fun r15 D16 =>
        if r15 = 0 then
          some ((-1), D16)
        else
          td_b (F_X12_layNow D16) fun _ D18 =>
          td_b (F_X12_findStings D18) fun _ D20 =>
          td_b (F_X12_wayOf (tv_div a1 100) (tv_rem a1 100) D20) fun r21 D22 =>
          F_X12_set_65 tf_N a1 a2 a3 r21 ((-2)) ((-2)) 0 D22
set_option maxHeartbeats 4000000 in
set_option maxRecDepth 20000 in
theorem S_X12_set (l : Launch) {E : tv_E} (hE : tv_hE E) (d : Nat) (a1 : Int) (a2 : Int) (a3 : Int) (D : td_D) : td_msim l E (d + 5) mX12_set g_m [tv_R 1, tv_I a1, tv_I a2, tv_I a3] D (F_X12_set a1 a2 a3 D) := by
  refine td_meetL (ls := [tv_R 1, tv_I a1, tv_I a2, tv_I a3, tv_U, tv_U, tv_U, tv_U, tv_U, tv_U]) rfl (Nat.le_of_ble_eq_true rfl) rfl ?_
  unfold F_X12_set
  refine ts_iload_n (i := 1) rfl rfl dX12_set_0 ?_
  refine td_if_lt (tgt := 30) rfl dX12_set_1 ?_ ?_
  · refine ts_iconst rfl dX12_set_30 ?_
    exact td_iret rfl dX12_set_31
  · refine ts_iload_n (i := 1) rfl rfl dX12_set_4 ?_
    refine ts_bipush rfl dX12_set_5 ?_
    refine td_idivK (by decide) dX12_set_7 ?_
    refine tq_callS (y2 := mX12_isCell) [tv_I (tv_div a1 100)] [] (st' := fun r11 => [tv_I r11]) tw_X12_isCell tx_X12_isCell tl_X12_156 rfl rfl rfl rfl (fun _ => rfl) dX12_set_8 (S_X12_isCell l hE _ (tv_div a1 100) D) (fun r11 D12 => ?_)
    refine td_if_eq (tgt := 30) rfl dX12_set_11 ?_ ?_
    · refine ts_iconst rfl dX12_set_30 ?_
      exact td_iret rfl dX12_set_31
    · refine ts_iload_n (i := 2) rfl rfl dX12_set_14 ?_
      refine tq_callS (y2 := mX12_isMuch) [tv_I a2] [] (st' := fun r13 => [tv_I r13]) tw_X12_isMuch tx_X12_isMuch tl_X12_152 rfl rfl rfl rfl (fun _ => rfl) dX12_set_15 (S_X12_isMuch l hE _ a2 D12) (fun r13 D14 => ?_)
      refine td_if_eq (tgt := 30) rfl dX12_set_18 ?_ ?_
      · refine ts_iconst rfl dX12_set_30 ?_
        exact td_iret rfl dX12_set_31
      · refine ts_iload_n (i := 3) rfl rfl dX12_set_21 ?_
        refine ts_iconst rfl dX12_set_22 ?_
        refine ts_iconst rfl dX12_set_23 ?_
        refine tq_callS (y2 := mX12_in) [tv_I a3, tv_I 0, tv_I 1] [] (st' := fun r15 => [tv_I r15]) tw_X12_in tx_X12_in tl_X12_142 rfl rfl rfl rfl (fun _ => rfl) dX12_set_24 (S_X12_in l hE _ a3 0 1 D14) (fun r15 D16 => ?_)
        refine td_if_ne (tgt := 32) rfl dX12_set_27 ?_ ?_
        · refine ts_iconst rfl dX12_set_30 ?_
          exact td_iret rfl dX12_set_31
        · refine ts_aload_n (i := 0) rfl rfl dX12_set_32 ?_
          refine tq_callV (y2 := mX12_layNow) [] [] 1 (st' := fun _ => []) tw_X12_layNow tx_X12_layNow tw_c12 ga_m_1 tl_X12_289 rfl rfl rfl rfl (fun _ => rfl) dX12_set_33 (S_X12_layNow l hE _ D16) (fun r17 D18 => ?_)
          refine ts_aload_n (i := 0) rfl rfl dX12_set_36 ?_
          refine tq_callV (y2 := mX12_findStings) [] [] 1 (st' := fun _ => []) tw_X12_findStings tx_X12_findStings tw_c12 ga_m_1 tl_X12_361 rfl rfl rfl rfl (fun _ => rfl) dX12_set_37 (S_X12_findStings l hE _ D18) (fun r19 D20 => ?_)
          refine ts_aload_n (i := 0) rfl rfl dX12_set_40 ?_
          refine ts_iload_n (i := 1) rfl rfl dX12_set_41 ?_
          refine ts_bipush rfl dX12_set_42 ?_
          refine td_idivK (by decide) dX12_set_44 ?_
          refine ts_iload_n (i := 1) rfl rfl dX12_set_45 ?_
          refine ts_bipush rfl dX12_set_46 ?_
          refine td_iremK (by decide) dX12_set_48 ?_
          refine tq_callV (y2 := mX12_wayOf) [tv_I (tv_div a1 100), tv_I (tv_rem a1 100)] [] 1 (st' := fun r21 => [tv_I r21]) tw_X12_wayOf tx_X12_wayOf tw_c12 ga_m_1 tl_X12_364 rfl rfl rfl rfl (fun _ => rfl) dX12_set_49 (S_X12_wayOf l hE _ (tv_div a1 100) (tv_rem a1 100) D20) (fun r21 D22 => ?_)
          refine tq_istore [tv_R 1, tv_I a1, tv_I a2, tv_I a3, tv_I r21, tv_U, tv_U, tv_U, tv_U, tv_U] (Nat.le_of_ble_eq_true rfl) rfl rfl dX12_set_52 ?_
          refine ts_bipush rfl dX12_set_54 ?_
          refine tq_istore [tv_R 1, tv_I a1, tv_I a2, tv_I a3, tv_I r21, tv_I ((-2)), tv_U, tv_U, tv_U, tv_U] (Nat.le_of_ble_eq_true rfl) rfl rfl dX12_set_56 ?_
          refine ts_bipush rfl dX12_set_58 ?_
          refine tq_istore [tv_R 1, tv_I a1, tv_I a2, tv_I a3, tv_I r21, tv_I ((-2)), tv_I ((-2)), tv_U, tv_U, tv_U] (Nat.le_of_ble_eq_true rfl) rfl rfl dX12_set_60 ?_
          refine ts_iconst rfl dX12_set_62 ?_
          refine tq_istore [tv_R 1, tv_I a1, tv_I a2, tv_I a3, tv_I r21, tv_I ((-2)), tv_I ((-2)), tv_I 0, tv_U, tv_U] (Nat.le_of_ble_eq_true rfl) rfl rfl dX12_set_63 ?_
          exact S_X12_set_65 hE d tf_N a1 a2 a3 r21 ((-2)) ((-2)) 0 D22
def F_X12_isSo_3 : Nat → Int → Int → Int → Int → td_D → Option (Int × td_D)
  | 0, _, _, _, _, _ => none
  | n + 1, v1, v2, v3, v4, D =>
    if 0 ≤ v1 ∧ v1 < ((6 : Nat) : Int) then
      if D 38 (Int.toNat v1) ≤ tv_w (v4 + 2) then
        some (1, D)
      else
        td_b (F_X12_at v1 v4 D) fun r2 D3 =>
        td_b (F_X12_at v1 (tv_w (v4 + 1)) D3) fun r4 D5 =>
        td_b (F_X12_at v1 (tv_w (v4 + 2)) D5) fun r6 D7 =>
        td_b (F_X12_in r2 0 9 D7) fun r8 D9 =>
        if r8 = 0 then
          some (1, D9)
        else
          td_b (F_X12_in r4 0 9 D9) fun r10 D11 =>
          if r10 = 0 then
            some (1, D11)
          else
            td_b (F_X12_in r6 0 1 D11) fun r12 D13 =>
            if r12 = 0 then
              some (1, D13)
            else
              if 0 ≤ v2 ∧ v2 < ((6 : Nat) : Int) then
                td_b (F_X12_stingsTo v3 D13) fun r15 D16 =>
                td_b (F_X12_stingsIn (D13 3 (Int.toNat v2)) r15 (tv_w ((tv_w (10 * r4)) + r2)) D16) fun r17 D18 =>
                if r6 = 1 then
                  if r17 = 1 then
                    F_X12_isSo_3 n v1 v2 v3 (tv_w (v4 + 3)) D18
                  else
                    some (0, D18)
                else
                  if r17 = 0 then
                    F_X12_isSo_3 n v1 v2 v3 (tv_w (v4 + 3)) D18
                  else
                    some (0, D18)
              else none
    else none
set_option maxHeartbeats 4000000 in
set_option maxRecDepth 20000 in
theorem S_X12_isSo_3 {l : Launch} {E : tv_E} (hE : tv_hE E) (d : Nat) : ∀ (n : Nat) (v1 : Int) (v2 : Int) (v3 : Int) (v4 : Int) (D : td_D), td_sim l E (d + 3) mX12_isSo g_m 3 [tv_R 1, tv_I v1, tv_I v2, tv_I v3, tv_I v4, tv_U, tv_U, tv_U] [] D (F_X12_isSo_3 n v1 v2 v3 v4 D) := by
  intro n
  induction n with
  | zero => intros; exact tv_none
  | succ n ih =>
    intro v1 v2 v3 v4 D
    show td_sim _ _ _ _ _ _ _ _ _ (F_X12_isSo_3 (n + 1) v1 v2 v3 v4 D)
    unfold F_X12_isSo_3
    refine ts_iload rfl dX12_isSo_3 ?_
    refine ts_iconst rfl dX12_isSo_5 ?_
    refine ts_iadd dX12_isSo_6 ?_
    refine ts_aload_n (i := 0) rfl rfl dX12_isSo_7 ?_
    refine td_getR (q := 38) tl_X12_121 rfl ga_m_1 rfl dX12_isSo_8 ?_
    refine ts_iload_n (i := 1) rfl rfl dX12_isSo_11 ?_
    refine td_guard (fun h1 => ?_)
    refine td_ialdK ga_m_38 (gn_m_38 _) h1 dX12_isSo_12 ?_
    refine td_icmp_ge (tgt := 126) rfl dX12_isSo_13 ?_ ?_
    · refine ts_iconst rfl dX12_isSo_126 ?_
      exact td_zretK (Or.inr rfl) rfl dX12_isSo_127
    · refine ts_aload_n (i := 0) rfl rfl dX12_isSo_16 ?_
      refine ts_iload_n (i := 1) rfl rfl dX12_isSo_17 ?_
      refine ts_iload rfl dX12_isSo_18 ?_
      refine tq_callV (y2 := mX12_at) [tv_I v1, tv_I v4] [] 1 (st' := fun r2 => [tv_I r2]) tw_X12_at tx_X12_at tw_c12 ga_m_1 tl_X12_307 rfl rfl rfl rfl (fun _ => rfl) dX12_isSo_20 (S_X12_at l hE _ v1 v4 D) (fun r2 D3 => ?_)
      refine tq_istore [tv_R 1, tv_I v1, tv_I v2, tv_I v3, tv_I v4, tv_I r2, tv_U, tv_U] (Nat.le_of_ble_eq_true rfl) rfl rfl dX12_isSo_23 ?_
      refine ts_aload_n (i := 0) rfl rfl dX12_isSo_25 ?_
      refine ts_iload_n (i := 1) rfl rfl dX12_isSo_26 ?_
      refine ts_iload rfl dX12_isSo_27 ?_
      refine ts_iconst rfl dX12_isSo_29 ?_
      refine ts_iadd dX12_isSo_30 ?_
      refine tq_callV (y2 := mX12_at) [tv_I v1, tv_I (tv_w (v4 + 1))] [] 1 (st' := fun r4 => [tv_I r4]) tw_X12_at tx_X12_at tw_c12 ga_m_1 tl_X12_307 rfl rfl rfl rfl (fun _ => rfl) dX12_isSo_31 (S_X12_at l hE _ v1 (tv_w (v4 + 1)) D3) (fun r4 D5 => ?_)
      refine tq_istore [tv_R 1, tv_I v1, tv_I v2, tv_I v3, tv_I v4, tv_I r2, tv_I r4, tv_U] (Nat.le_of_ble_eq_true rfl) rfl rfl dX12_isSo_34 ?_
      refine ts_aload_n (i := 0) rfl rfl dX12_isSo_36 ?_
      refine ts_iload_n (i := 1) rfl rfl dX12_isSo_37 ?_
      refine ts_iload rfl dX12_isSo_38 ?_
      refine ts_iconst rfl dX12_isSo_40 ?_
      refine ts_iadd dX12_isSo_41 ?_
      refine tq_callV (y2 := mX12_at) [tv_I v1, tv_I (tv_w (v4 + 2))] [] 1 (st' := fun r6 => [tv_I r6]) tw_X12_at tx_X12_at tw_c12 ga_m_1 tl_X12_307 rfl rfl rfl rfl (fun _ => rfl) dX12_isSo_42 (S_X12_at l hE _ v1 (tv_w (v4 + 2)) D5) (fun r6 D7 => ?_)
      refine tq_istore [tv_R 1, tv_I v1, tv_I v2, tv_I v3, tv_I v4, tv_I r2, tv_I r4, tv_I r6] (Nat.le_of_ble_eq_true rfl) rfl rfl dX12_isSo_45 ?_
      refine ts_iload rfl dX12_isSo_47 ?_
      refine ts_iconst rfl dX12_isSo_49 ?_
      refine ts_bipush rfl dX12_isSo_50 ?_
      refine tq_callS (y2 := mX12_in) [tv_I r2, tv_I 0, tv_I 9] [] (st' := fun r8 => [tv_I r8]) tw_X12_in tx_X12_in tl_X12_142 rfl rfl rfl rfl (fun _ => rfl) dX12_isSo_52 (S_X12_in l hE _ r2 0 9 D7) (fun r8 D9 => ?_)
      refine td_if_eq (tgt := 79) rfl dX12_isSo_55 ?_ ?_
      · refine ts_iconst rfl dX12_isSo_79 ?_
        exact td_zretK (Or.inr rfl) rfl dX12_isSo_80
      · refine ts_iload rfl dX12_isSo_58 ?_
        refine ts_iconst rfl dX12_isSo_60 ?_
        refine ts_bipush rfl dX12_isSo_61 ?_
        refine tq_callS (y2 := mX12_in) [tv_I r4, tv_I 0, tv_I 9] [] (st' := fun r10 => [tv_I r10]) tw_X12_in tx_X12_in tl_X12_142 rfl rfl rfl rfl (fun _ => rfl) dX12_isSo_63 (S_X12_in l hE _ r4 0 9 D9) (fun r10 D11 => ?_)
        refine td_if_eq (tgt := 79) rfl dX12_isSo_66 ?_ ?_
        · refine ts_iconst rfl dX12_isSo_79 ?_
          exact td_zretK (Or.inr rfl) rfl dX12_isSo_80
        · refine ts_iload rfl dX12_isSo_69 ?_
          refine ts_iconst rfl dX12_isSo_71 ?_
          refine ts_iconst rfl dX12_isSo_72 ?_
          refine tq_callS (y2 := mX12_in) [tv_I r6, tv_I 0, tv_I 1] [] (st' := fun r12 => [tv_I r12]) tw_X12_in tx_X12_in tl_X12_142 rfl rfl rfl rfl (fun _ => rfl) dX12_isSo_73 (S_X12_in l hE _ r6 0 1 D11) (fun r12 D13 => ?_)
          refine td_if_ne (tgt := 81) rfl dX12_isSo_76 ?_ ?_
          · refine ts_iconst rfl dX12_isSo_79 ?_
            exact td_zretK (Or.inr rfl) rfl dX12_isSo_80
          · refine ts_aload_n (i := 0) rfl rfl dX12_isSo_81 ?_
            refine ts_aload_n (i := 0) rfl rfl dX12_isSo_82 ?_
            refine td_getR (q := 3) tl_X12_13 rfl ga_m_1 rfl dX12_isSo_83 ?_
            refine ts_iload_n (i := 2) rfl rfl dX12_isSo_86 ?_
            refine td_guard (fun h14 => ?_)
            refine td_ialdK ga_m_3 (gn_m_3 _) h14 dX12_isSo_87 ?_
            refine ts_aload_n (i := 0) rfl rfl dX12_isSo_88 ?_
            refine ts_iload_n (i := 3) rfl rfl dX12_isSo_89 ?_
            refine tq_callV (y2 := mX12_stingsTo) [tv_I v3] [tv_I (D13 3 (Int.toNat v2)), tv_R 1] 1 (st' := fun r15 => [tv_I r15, tv_I (D13 3 (Int.toNat v2)), tv_R 1]) tw_X12_stingsTo tx_X12_stingsTo tw_c12 ga_m_1 tl_X12_295 rfl rfl rfl rfl (fun _ => rfl) dX12_isSo_90 (S_X12_stingsTo l hE _ v3 D13) (fun r15 D16 => ?_)
            refine ts_bipush rfl dX12_isSo_93 ?_
            refine ts_iload rfl dX12_isSo_95 ?_
            refine ts_imul dX12_isSo_97 ?_
            refine ts_iload rfl dX12_isSo_98 ?_
            refine ts_iadd dX12_isSo_100 ?_
            refine tq_callV (y2 := mX12_stingsIn) [tv_I (D13 3 (Int.toNat v2)), tv_I r15, tv_I (tv_w ((tv_w (10 * r4)) + r2))] [] 1 (st' := fun r17 => [tv_I r17]) tw_X12_stingsIn tx_X12_stingsIn tw_c12 ga_m_1 tl_X12_341 rfl rfl rfl rfl (fun _ => rfl) dX12_isSo_101 (S_X12_stingsIn l hE _ (D13 3 (Int.toNat v2)) r15 (tv_w ((tv_w (10 * r4)) + r2)) D16) (fun r17 D18 => ?_)
            refine ts_iload rfl dX12_isSo_104 ?_
            refine ts_iconst rfl dX12_isSo_106 ?_
            refine td_icmp_ne (tgt := 114) rfl dX12_isSo_107 ?_ ?_
            · refine ts_iconst rfl dX12_isSo_110 ?_
              refine ts_goto (tgt := 115) rfl dX12_isSo_111 ?_
              refine td_icmp_eq (tgt := 120) rfl dX12_isSo_115 ?_ ?_
              · refine tq_iinc [tv_R 1, tv_I v1, tv_I v2, tv_I v3, tv_I (tv_w (v4 + 3)), tv_I r2, tv_I r4, tv_I r6] rfl rfl rfl dX12_isSo_120 ?_
                refine ts_goto (tgt := 3) rfl dX12_isSo_123 ?_
                refine tv_weak (ls' := [tv_R 1, tv_I v1, tv_I v2, tv_I v3, tv_I (tv_w (v4 + 3)), tv_U, tv_U, tv_U]) ⟨Or.inr rfl, Or.inr rfl, Or.inr rfl, Or.inr rfl, Or.inr rfl, Or.inl rfl, Or.inl rfl, Or.inl rfl, trivial⟩ ?_
                exact ih v1 v2 v3 (tv_w (v4 + 3)) D18
              · refine ts_iconst rfl dX12_isSo_118 ?_
                exact td_zretK (Or.inl rfl) rfl dX12_isSo_119
            · refine ts_iconst rfl dX12_isSo_114 ?_
              refine td_icmp_eq (tgt := 120) rfl dX12_isSo_115 ?_ ?_
              · refine tq_iinc [tv_R 1, tv_I v1, tv_I v2, tv_I v3, tv_I (tv_w (v4 + 3)), tv_I r2, tv_I r4, tv_I r6] rfl rfl rfl dX12_isSo_120 ?_
                refine ts_goto (tgt := 3) rfl dX12_isSo_123 ?_
                refine tv_weak (ls' := [tv_R 1, tv_I v1, tv_I v2, tv_I v3, tv_I (tv_w (v4 + 3)), tv_U, tv_U, tv_U]) ⟨Or.inr rfl, Or.inr rfl, Or.inr rfl, Or.inr rfl, Or.inr rfl, Or.inl rfl, Or.inl rfl, Or.inl rfl, trivial⟩ ?_
                exact ih v1 v2 v3 (tv_w (v4 + 3)) D18
              · refine ts_iconst rfl dX12_isSo_118 ?_
                exact td_zretK (Or.inl rfl) rfl dX12_isSo_119
def F_X12_isSo (a1 : Int) (a2 : Int) (a3 : Int) (D : td_D) : Option (Int × td_D) :=
  F_X12_isSo_3 tf_N a1 a2 a3 0 D
set_option maxHeartbeats 4000000 in
set_option maxRecDepth 20000 in
theorem S_X12_isSo (l : Launch) {E : tv_E} (hE : tv_hE E) (d : Nat) (a1 : Int) (a2 : Int) (a3 : Int) (D : td_D) : td_msim l E (d + 3) mX12_isSo g_m [tv_R 1, tv_I a1, tv_I a2, tv_I a3] D (F_X12_isSo a1 a2 a3 D) := by
  refine td_meetL (ls := [tv_R 1, tv_I a1, tv_I a2, tv_I a3, tv_U, tv_U, tv_U, tv_U]) rfl (Nat.le_of_ble_eq_true rfl) rfl ?_
  unfold F_X12_isSo
  refine ts_iconst rfl dX12_isSo_0 ?_
  refine tq_istore [tv_R 1, tv_I a1, tv_I a2, tv_I a3, tv_I 0, tv_U, tv_U, tv_U] (Nat.le_of_ble_eq_true rfl) rfl rfl dX12_isSo_1 ?_
  exact S_X12_isSo_3 hE d tf_N a1 a2 a3 0 D
def F_X12_tries_56 : Nat → Int → Int → Int → Int → Int → Int → Int → td_D → Option (Int × td_D)
  | 0, _, _, _, _, _, _, _, _ => none
  | n + 1, v1, v2, v3, v5, v6, v7, v8, D =>
    if 99 < v8 then
      if v3 = 0 then
        some (v5, D)
      else
        if v3 = 1 then
          some (v6, D)
        else
          some (v7, D)
    else
      td_b (F_X12_isSo v1 v2 v8 D) fun r1 D2 =>
      if r1 = 0 then
        F_X12_tries_56 n v1 v2 v3 v5 v6 v7 (tv_w (v8 + 1)) D2
      else
        if v5 = 0 then
          F_X12_tries_56 n v1 v2 v3 (tv_w (v5 + 1)) v8 v8 (tv_w (v8 + 1)) D2
        else
          F_X12_tries_56 n v1 v2 v3 (tv_w (v5 + 1)) v6 v8 (tv_w (v8 + 1)) D2
set_option maxHeartbeats 4000000 in
set_option maxRecDepth 20000 in
theorem S_X12_tries_56 {l : Launch} {E : tv_E} (hE : tv_hE E) (d : Nat) : ∀ (n : Nat) (v1 : Int) (v2 : Int) (v3 : Int) (v5 : Int) (v6 : Int) (v7 : Int) (v8 : Int) (D : td_D), td_sim l E (d + 4) mX12_tries g_m 56 [tv_R 1, tv_I v1, tv_I v2, tv_I v3, tv_U, tv_I v5, tv_I v6, tv_I v7, tv_I v8] [] D (F_X12_tries_56 n v1 v2 v3 v5 v6 v7 v8 D) := by
  intro n
  induction n with
  | zero => intros; exact tv_none
  | succ n ih =>
    intro v1 v2 v3 v5 v6 v7 v8 D
    show td_sim _ _ _ _ _ _ _ _ _ (F_X12_tries_56 (n + 1) v1 v2 v3 v5 v6 v7 v8 D)
    unfold F_X12_tries_56
    refine ts_iload rfl dX12_tries_56 ?_
    refine ts_bipush rfl dX12_tries_58 ?_
    refine td_icmp_gt (tgt := 99) rfl dX12_tries_60 ?_ ?_
    · refine ts_iload_n (i := 3) rfl rfl dX12_tries_99 ?_
      refine td_if_ne (tgt := 108) rfl dX12_tries_100 ?_ ?_
      · refine ts_iload rfl dX12_tries_103 ?_
        refine ts_goto (tgt := 120) rfl dX12_tries_105 ?_
        exact td_iret rfl dX12_tries_120
      · refine ts_iload_n (i := 3) rfl rfl dX12_tries_108 ?_
        refine ts_iconst rfl dX12_tries_109 ?_
        refine td_icmp_ne (tgt := 118) rfl dX12_tries_110 ?_ ?_
        · refine ts_iload rfl dX12_tries_113 ?_
          refine ts_goto (tgt := 120) rfl dX12_tries_115 ?_
          exact td_iret rfl dX12_tries_120
        · refine ts_iload rfl dX12_tries_118 ?_
          exact td_iret rfl dX12_tries_120
    · refine ts_aload_n (i := 0) rfl rfl dX12_tries_63 ?_
      refine ts_iload_n (i := 1) rfl rfl dX12_tries_64 ?_
      refine ts_iload_n (i := 2) rfl rfl dX12_tries_65 ?_
      refine ts_iload rfl dX12_tries_66 ?_
      refine tq_callV (y2 := mX12_isSo) [tv_I v1, tv_I v2, tv_I v8] [] 1 (st' := fun r1 => [tv_I r1]) tw_X12_isSo tx_X12_isSo tw_c12 ga_m_1 tl_X12_370 rfl rfl rfl rfl (fun _ => rfl) dX12_tries_68 (S_X12_isSo l hE _ v1 v2 v8 D) (fun r1 D2 => ?_)
      refine td_if_ne (tgt := 77) rfl dX12_tries_71 ?_ ?_
      · refine ts_goto (tgt := 93) rfl dX12_tries_74 ?_
        refine tq_iinc [tv_R 1, tv_I v1, tv_I v2, tv_I v3, tv_U, tv_I v5, tv_I v6, tv_I v7, tv_I (tv_w (v8 + 1))] rfl rfl rfl dX12_tries_93 ?_
        refine ts_goto (tgt := 56) rfl dX12_tries_96 ?_
        exact ih v1 v2 v3 v5 v6 v7 (tv_w (v8 + 1)) D2
      · refine ts_iload rfl dX12_tries_77 ?_
        refine td_if_ne (tgt := 86) rfl dX12_tries_79 ?_ ?_
        · refine ts_iload rfl dX12_tries_82 ?_
          refine tq_istore [tv_R 1, tv_I v1, tv_I v2, tv_I v3, tv_U, tv_I v5, tv_I v8, tv_I v7, tv_I v8] (Nat.le_of_ble_eq_true rfl) rfl rfl dX12_tries_84 ?_
          refine ts_iload rfl dX12_tries_86 ?_
          refine tq_istore [tv_R 1, tv_I v1, tv_I v2, tv_I v3, tv_U, tv_I v5, tv_I v8, tv_I v8, tv_I v8] (Nat.le_of_ble_eq_true rfl) rfl rfl dX12_tries_88 ?_
          refine tq_iinc [tv_R 1, tv_I v1, tv_I v2, tv_I v3, tv_U, tv_I (tv_w (v5 + 1)), tv_I v8, tv_I v8, tv_I v8] rfl rfl rfl dX12_tries_90 ?_
          refine tq_iinc [tv_R 1, tv_I v1, tv_I v2, tv_I v3, tv_U, tv_I (tv_w (v5 + 1)), tv_I v8, tv_I v8, tv_I (tv_w (v8 + 1))] rfl rfl rfl dX12_tries_93 ?_
          refine ts_goto (tgt := 56) rfl dX12_tries_96 ?_
          exact ih v1 v2 v3 (tv_w (v5 + 1)) v8 v8 (tv_w (v8 + 1)) D2
        · refine ts_iload rfl dX12_tries_86 ?_
          refine tq_istore [tv_R 1, tv_I v1, tv_I v2, tv_I v3, tv_U, tv_I v5, tv_I v6, tv_I v8, tv_I v8] (Nat.le_of_ble_eq_true rfl) rfl rfl dX12_tries_88 ?_
          refine tq_iinc [tv_R 1, tv_I v1, tv_I v2, tv_I v3, tv_U, tv_I (tv_w (v5 + 1)), tv_I v6, tv_I v8, tv_I v8] rfl rfl rfl dX12_tries_90 ?_
          refine tq_iinc [tv_R 1, tv_I v1, tv_I v2, tv_I v3, tv_U, tv_I (tv_w (v5 + 1)), tv_I v6, tv_I v8, tv_I (tv_w (v8 + 1))] rfl rfl rfl dX12_tries_93 ?_
          refine ts_goto (tgt := 56) rfl dX12_tries_96 ?_
          exact ih v1 v2 v3 (tv_w (v5 + 1)) v6 v8 (tv_w (v8 + 1)) D2
def F_X12_tries (a1 : Int) (a2 : Int) (a3 : Int) (D : td_D) : Option (Int × td_D) :=
  td_b (F_X12_isShelf a1 D) fun r3 D4 =>
  if r3 = 0 then
    some ((-1), D4)
  else
    td_b (F_X12_isHive a2 D4) fun r5 D6 =>
    if r5 = 0 then
      some ((-1), D6)
    else
      td_b (F_X12_in a3 0 2 D6) fun r7 D8 =>
      if r7 = 0 then
        some ((-1), D8)
      else
        td_b (F_X12_rowFault a1 0 D8) fun r9 D10 =>
        if 0 ≤ r9 then
          F_X12_tries_56 tf_N a1 a2 a3 0 ((-2)) ((-2)) 0 D10
        else
          some (r9, D10)
set_option maxHeartbeats 4000000 in
set_option maxRecDepth 20000 in
theorem S_X12_tries (l : Launch) {E : tv_E} (hE : tv_hE E) (d : Nat) (a1 : Int) (a2 : Int) (a3 : Int) (D : td_D) : td_msim l E (d + 4) mX12_tries g_m [tv_R 1, tv_I a1, tv_I a2, tv_I a3] D (F_X12_tries a1 a2 a3 D) := by
  refine td_meetL (ls := [tv_R 1, tv_I a1, tv_I a2, tv_I a3, tv_U, tv_U, tv_U, tv_U, tv_U]) rfl (Nat.le_of_ble_eq_true rfl) rfl ?_
  unfold F_X12_tries
  refine ts_iload_n (i := 1) rfl rfl dX12_tries_0 ?_
  refine tq_callS (y2 := mX12_isShelf) [tv_I a1] [] (st' := fun r3 => [tv_I r3]) tw_X12_isShelf tx_X12_isShelf tl_X12_167 rfl rfl rfl rfl (fun _ => rfl) dX12_tries_1 (S_X12_isShelf l hE _ a1 D) (fun r3 D4 => ?_)
  refine td_if_eq (tgt := 24) rfl dX12_tries_4 ?_ ?_
  · refine ts_iconst rfl dX12_tries_24 ?_
    exact td_iret rfl dX12_tries_25
  · refine ts_aload_n (i := 0) rfl rfl dX12_tries_7 ?_
    refine ts_iload_n (i := 2) rfl rfl dX12_tries_8 ?_
    refine tq_callV (y2 := mX12_isHive) [tv_I a2] [] 1 (st' := fun r5 => [tv_I r5]) tw_X12_isHive tx_X12_isHive tw_c12 ga_m_1 tl_X12_185 rfl rfl rfl rfl (fun _ => rfl) dX12_tries_9 (S_X12_isHive l hE _ a2 D4) (fun r5 D6 => ?_)
    refine td_if_eq (tgt := 24) rfl dX12_tries_12 ?_ ?_
    · refine ts_iconst rfl dX12_tries_24 ?_
      exact td_iret rfl dX12_tries_25
    · refine ts_iload_n (i := 3) rfl rfl dX12_tries_15 ?_
      refine ts_iconst rfl dX12_tries_16 ?_
      refine ts_iconst rfl dX12_tries_17 ?_
      refine tq_callS (y2 := mX12_in) [tv_I a3, tv_I 0, tv_I 2] [] (st' := fun r7 => [tv_I r7]) tw_X12_in tx_X12_in tl_X12_142 rfl rfl rfl rfl (fun _ => rfl) dX12_tries_18 (S_X12_in l hE _ a3 0 2 D6) (fun r7 D8 => ?_)
      refine td_if_ne (tgt := 26) rfl dX12_tries_21 ?_ ?_
      · refine ts_iconst rfl dX12_tries_24 ?_
        exact td_iret rfl dX12_tries_25
      · refine ts_aload_n (i := 0) rfl rfl dX12_tries_26 ?_
        refine ts_iload_n (i := 1) rfl rfl dX12_tries_27 ?_
        refine ts_iconst rfl dX12_tries_28 ?_
        refine tq_callV (y2 := mX12_rowFault) [tv_I a1, tv_I 0] [] 1 (st' := fun r9 => [tv_I r9]) tw_X12_rowFault tx_X12_rowFault tw_c12 ga_m_1 tl_X12_319 rfl rfl rfl rfl (fun _ => rfl) dX12_tries_29 (S_X12_rowFault l hE _ a1 0 D8) (fun r9 D10 => ?_)
        refine tq_istore [tv_R 1, tv_I a1, tv_I a2, tv_I a3, tv_I r9, tv_U, tv_U, tv_U, tv_U] (Nat.le_of_ble_eq_true rfl) rfl rfl dX12_tries_32 ?_
        refine ts_iload rfl dX12_tries_34 ?_
        refine td_if_ge (tgt := 42) rfl dX12_tries_36 ?_ ?_
        · refine ts_iconst rfl dX12_tries_42 ?_
          refine tq_istore [tv_R 1, tv_I a1, tv_I a2, tv_I a3, tv_I r9, tv_I 0, tv_U, tv_U, tv_U] (Nat.le_of_ble_eq_true rfl) rfl rfl dX12_tries_43 ?_
          refine ts_bipush rfl dX12_tries_45 ?_
          refine tq_istore [tv_R 1, tv_I a1, tv_I a2, tv_I a3, tv_I r9, tv_I 0, tv_I ((-2)), tv_U, tv_U] (Nat.le_of_ble_eq_true rfl) rfl rfl dX12_tries_47 ?_
          refine ts_bipush rfl dX12_tries_49 ?_
          refine tq_istore [tv_R 1, tv_I a1, tv_I a2, tv_I a3, tv_I r9, tv_I 0, tv_I ((-2)), tv_I ((-2)), tv_U] (Nat.le_of_ble_eq_true rfl) rfl rfl dX12_tries_51 ?_
          refine ts_iconst rfl dX12_tries_53 ?_
          refine tq_istore [tv_R 1, tv_I a1, tv_I a2, tv_I a3, tv_I r9, tv_I 0, tv_I ((-2)), tv_I ((-2)), tv_I 0] (Nat.le_of_ble_eq_true rfl) rfl rfl dX12_tries_54 ?_
          refine tv_weak (ls' := [tv_R 1, tv_I a1, tv_I a2, tv_I a3, tv_U, tv_I 0, tv_I ((-2)), tv_I ((-2)), tv_I 0]) ⟨Or.inr rfl, Or.inr rfl, Or.inr rfl, Or.inr rfl, Or.inl rfl, Or.inr rfl, Or.inr rfl, Or.inr rfl, Or.inr rfl, trivial⟩ ?_
          exact S_X12_tries_56 hE d tf_N a1 a2 a3 0 ((-2)) ((-2)) 0 D10
        · refine ts_iload rfl dX12_tries_39 ?_
          exact td_iret rfl dX12_tries_41
def F_X12_next_162 (k87 : Int → Int → Int → Int → td_D → Option (Int × td_D)) (v4 : Int) (v5 : Int) (v6 : Int) (v7 : Int) (s0 : Int) (D : td_D) : Option (Int × td_D) :=
  if v5 < 0 then
    k87 v4 v7 s0 (tv_w (v7 + 1)) D
  else
    if s0 < v6 then
      k87 v4 v7 s0 (tv_w (v7 + 1)) D
    else
      k87 v4 v5 v6 (tv_w (v7 + 1)) D
set_option maxHeartbeats 4000000 in
set_option maxRecDepth 20000 in
theorem S_X12_next_162 {l : Launch} {E : tv_E} (hE : tv_hE E) (d : Nat) (k87 : Int → Int → Int → Int → td_D → Option (Int × td_D)) (hk87 : ∀ (v4 : Int) (v5 : Int) (v6 : Int) (v7 : Int) (D : td_D), td_sim l E (d + 4) mX12_next g_m 87 [tv_R 1, tv_U, tv_U, tv_U, tv_I v4, tv_I v5, tv_I v6, tv_I v7, tv_U, tv_U] [] D (k87 v4 v5 v6 v7 D)) (v4 : Int) (v5 : Int) (v6 : Int) (v7 : Int) (s0 : Int) (D : td_D) : td_sim l E (d + 4) mX12_next g_m 162 [tv_R 1, tv_U, tv_U, tv_U, tv_I v4, tv_I v5, tv_I v6, tv_I v7, tv_U, tv_U] [tv_I s0] D (F_X12_next_162 k87 v4 v5 v6 v7 s0 D) := by
  unfold F_X12_next_162
  refine tq_istore [tv_R 1, tv_U, tv_U, tv_U, tv_I v4, tv_I v5, tv_I v6, tv_I v7, tv_U, tv_I s0] (Nat.le_of_ble_eq_true rfl) rfl rfl dX12_next_162 ?_
  refine ts_iload rfl dX12_next_164 ?_
  refine td_if_lt (tgt := 179) rfl dX12_next_166 ?_ ?_
  · refine ts_iload rfl dX12_next_179 ?_
    refine tq_istore [tv_R 1, tv_U, tv_U, tv_U, tv_I v4, tv_I v7, tv_I v6, tv_I v7, tv_U, tv_I s0] (Nat.le_of_ble_eq_true rfl) rfl rfl dX12_next_181 ?_
    refine ts_iload rfl dX12_next_183 ?_
    refine tq_istore [tv_R 1, tv_U, tv_U, tv_U, tv_I v4, tv_I v7, tv_I s0, tv_I v7, tv_U, tv_I s0] (Nat.le_of_ble_eq_true rfl) rfl rfl dX12_next_185 ?_
    refine tq_iinc [tv_R 1, tv_U, tv_U, tv_U, tv_I v4, tv_I v7, tv_I s0, tv_I (tv_w (v7 + 1)), tv_U, tv_I s0] rfl rfl rfl dX12_next_187 ?_
    refine ts_goto (tgt := 87) rfl dX12_next_190 ?_
    refine tv_weak (ls' := [tv_R 1, tv_U, tv_U, tv_U, tv_I v4, tv_I v7, tv_I s0, tv_I (tv_w (v7 + 1)), tv_U, tv_U]) ⟨Or.inr rfl, Or.inl rfl, Or.inl rfl, Or.inl rfl, Or.inr rfl, Or.inr rfl, Or.inr rfl, Or.inr rfl, Or.inl rfl, Or.inl rfl, trivial⟩ ?_
    exact hk87 v4 v7 s0 (tv_w (v7 + 1)) D
  · refine ts_iload rfl dX12_next_169 ?_
    refine ts_iload rfl dX12_next_171 ?_
    refine td_icmp_lt (tgt := 179) rfl dX12_next_173 ?_ ?_
    · refine ts_iload rfl dX12_next_179 ?_
      refine tq_istore [tv_R 1, tv_U, tv_U, tv_U, tv_I v4, tv_I v7, tv_I v6, tv_I v7, tv_U, tv_I s0] (Nat.le_of_ble_eq_true rfl) rfl rfl dX12_next_181 ?_
      refine ts_iload rfl dX12_next_183 ?_
      refine tq_istore [tv_R 1, tv_U, tv_U, tv_U, tv_I v4, tv_I v7, tv_I s0, tv_I v7, tv_U, tv_I s0] (Nat.le_of_ble_eq_true rfl) rfl rfl dX12_next_185 ?_
      refine tq_iinc [tv_R 1, tv_U, tv_U, tv_U, tv_I v4, tv_I v7, tv_I s0, tv_I (tv_w (v7 + 1)), tv_U, tv_I s0] rfl rfl rfl dX12_next_187 ?_
      refine ts_goto (tgt := 87) rfl dX12_next_190 ?_
      refine tv_weak (ls' := [tv_R 1, tv_U, tv_U, tv_U, tv_I v4, tv_I v7, tv_I s0, tv_I (tv_w (v7 + 1)), tv_U, tv_U]) ⟨Or.inr rfl, Or.inl rfl, Or.inl rfl, Or.inl rfl, Or.inr rfl, Or.inr rfl, Or.inr rfl, Or.inr rfl, Or.inl rfl, Or.inl rfl, trivial⟩ ?_
      exact hk87 v4 v7 s0 (tv_w (v7 + 1)) D
    · refine ts_goto (tgt := 187) rfl dX12_next_176 ?_
      refine tq_iinc [tv_R 1, tv_U, tv_U, tv_U, tv_I v4, tv_I v5, tv_I v6, tv_I (tv_w (v7 + 1)), tv_U, tv_I s0] rfl rfl rfl dX12_next_187 ?_
      refine ts_goto (tgt := 87) rfl dX12_next_190 ?_
      refine tv_weak (ls' := [tv_R 1, tv_U, tv_U, tv_U, tv_I v4, tv_I v5, tv_I v6, tv_I (tv_w (v7 + 1)), tv_U, tv_U]) ⟨Or.inr rfl, Or.inl rfl, Or.inl rfl, Or.inl rfl, Or.inr rfl, Or.inr rfl, Or.inr rfl, Or.inr rfl, Or.inl rfl, Or.inl rfl, trivial⟩ ?_
      exact hk87 v4 v5 v6 (tv_w (v7 + 1)) D
def F_X12_next_105 (k87 : Int → Int → Int → Int → td_D → Option (Int × td_D)) : Nat → Int → Int → Int → Int → Int → Int → td_D → Option (Int × td_D)
  | 0, _, _, _, _, _, _, _ => none
  | n + 1, v4, v5, v6, v7, v8, v9, D =>
    if 99 < v9 then
      if v8 ≤ tv_w (v4 - v8) then
        F_X12_next_162 k87 v4 v5 v6 v7 (tv_w (v4 - v8)) D
      else
        F_X12_next_162 k87 v4 v5 v6 v7 v8 D
    else
      if 0 ≤ v9 ∧ v9 < ((100 : Nat) : Int) then
        if D 30 (Int.toNat v9) = 0 then
          F_X12_next_105 k87 n v4 v5 v6 v7 v8 (tv_w (v9 + 1)) D
        else
          td_b (F_X12_stingsTo v9 D) fun r2 D3 =>
          if r2 < v7 then
            F_X12_next_105 k87 n v4 v5 v6 v7 v8 (tv_w (v9 + 1)) D3
          else
            F_X12_next_105 k87 n v4 v5 v6 v7 (tv_w (v8 + 1)) (tv_w (v9 + 1)) D3
      else none
set_option maxHeartbeats 4000000 in
set_option maxRecDepth 20000 in
theorem S_X12_next_105 {l : Launch} {E : tv_E} (hE : tv_hE E) (d : Nat) (k87 : Int → Int → Int → Int → td_D → Option (Int × td_D)) (hk87 : ∀ (v4 : Int) (v5 : Int) (v6 : Int) (v7 : Int) (D : td_D), td_sim l E (d + 4) mX12_next g_m 87 [tv_R 1, tv_U, tv_U, tv_U, tv_I v4, tv_I v5, tv_I v6, tv_I v7, tv_U, tv_U] [] D (k87 v4 v5 v6 v7 D)) : ∀ (n : Nat) (v4 : Int) (v5 : Int) (v6 : Int) (v7 : Int) (v8 : Int) (v9 : Int) (D : td_D), td_sim l E (d + 4) mX12_next g_m 105 [tv_R 1, tv_U, tv_U, tv_U, tv_I v4, tv_I v5, tv_I v6, tv_I v7, tv_I v8, tv_I v9] [] D (F_X12_next_105 k87 n v4 v5 v6 v7 v8 v9 D) := by
  intro n
  induction n with
  | zero => intros; exact tv_none
  | succ n ih =>
    intro v4 v5 v6 v7 v8 v9 D
    show td_sim _ _ _ _ _ _ _ _ _ (F_X12_next_105 k87 (n + 1) v4 v5 v6 v7 v8 v9 D)
    unfold F_X12_next_105
    refine ts_iload rfl dX12_next_105 ?_
    refine ts_bipush rfl dX12_next_107 ?_
    refine td_icmp_gt (tgt := 142) rfl dX12_next_109 ?_ ?_
    · refine ts_iload rfl dX12_next_142 ?_
      refine ts_iload rfl dX12_next_144 ?_
      refine ts_iload rfl dX12_next_146 ?_
      refine ts_isub dX12_next_148 ?_
      refine td_icmp_le (tgt := 157) rfl dX12_next_149 ?_ ?_
      · refine ts_iload rfl dX12_next_157 ?_
        refine ts_iload rfl dX12_next_159 ?_
        refine ts_isub dX12_next_161 ?_
        refine tv_weak (ls' := [tv_R 1, tv_U, tv_U, tv_U, tv_I v4, tv_I v5, tv_I v6, tv_I v7, tv_U, tv_U]) ⟨Or.inr rfl, Or.inl rfl, Or.inl rfl, Or.inl rfl, Or.inr rfl, Or.inr rfl, Or.inr rfl, Or.inr rfl, Or.inl rfl, Or.inl rfl, trivial⟩ ?_
        exact S_X12_next_162 hE d k87 (hk87) v4 v5 v6 v7 (tv_w (v4 - v8)) D
      · refine ts_iload rfl dX12_next_152 ?_
        refine ts_goto (tgt := 162) rfl dX12_next_154 ?_
        refine tv_weak (ls' := [tv_R 1, tv_U, tv_U, tv_U, tv_I v4, tv_I v5, tv_I v6, tv_I v7, tv_U, tv_U]) ⟨Or.inr rfl, Or.inl rfl, Or.inl rfl, Or.inl rfl, Or.inr rfl, Or.inr rfl, Or.inr rfl, Or.inr rfl, Or.inl rfl, Or.inl rfl, trivial⟩ ?_
        exact S_X12_next_162 hE d k87 (hk87) v4 v5 v6 v7 v8 D
    · refine ts_aload_n (i := 0) rfl rfl dX12_next_112 ?_
      refine td_getR (q := 30) tl_X12_97 rfl ga_m_1 rfl dX12_next_113 ?_
      refine ts_iload rfl dX12_next_116 ?_
      refine td_guard (fun h1 => ?_)
      refine td_zaldK ga_m_30 (gn_m_30 _) h1 dX12_next_118 ?_
      refine td_if_eq (tgt := 136) rfl dX12_next_119 ?_ ?_
      · refine tq_iinc [tv_R 1, tv_U, tv_U, tv_U, tv_I v4, tv_I v5, tv_I v6, tv_I v7, tv_I v8, tv_I (tv_w (v9 + 1))] rfl rfl rfl dX12_next_136 ?_
        refine ts_goto (tgt := 105) rfl dX12_next_139 ?_
        exact ih v4 v5 v6 v7 v8 (tv_w (v9 + 1)) D
      · refine ts_aload_n (i := 0) rfl rfl dX12_next_122 ?_
        refine ts_iload rfl dX12_next_123 ?_
        refine tq_callV (y2 := mX12_stingsTo) [tv_I v9] [] 1 (st' := fun r2 => [tv_I r2]) tw_X12_stingsTo tx_X12_stingsTo tw_c12 ga_m_1 tl_X12_295 rfl rfl rfl rfl (fun _ => rfl) dX12_next_125 (S_X12_stingsTo l hE _ v9 D) (fun r2 D3 => ?_)
        refine ts_iload rfl dX12_next_128 ?_
        refine td_icmp_lt (tgt := 136) rfl dX12_next_130 ?_ ?_
        · refine tq_iinc [tv_R 1, tv_U, tv_U, tv_U, tv_I v4, tv_I v5, tv_I v6, tv_I v7, tv_I v8, tv_I (tv_w (v9 + 1))] rfl rfl rfl dX12_next_136 ?_
          refine ts_goto (tgt := 105) rfl dX12_next_139 ?_
          exact ih v4 v5 v6 v7 v8 (tv_w (v9 + 1)) D3
        · refine tq_iinc [tv_R 1, tv_U, tv_U, tv_U, tv_I v4, tv_I v5, tv_I v6, tv_I v7, tv_I (tv_w (v8 + 1)), tv_I v9] rfl rfl rfl dX12_next_133 ?_
          refine tq_iinc [tv_R 1, tv_U, tv_U, tv_U, tv_I v4, tv_I v5, tv_I v6, tv_I v7, tv_I (tv_w (v8 + 1)), tv_I (tv_w (v9 + 1))] rfl rfl rfl dX12_next_136 ?_
          refine ts_goto (tgt := 105) rfl dX12_next_139 ?_
          exact ih v4 v5 v6 v7 (tv_w (v8 + 1)) (tv_w (v9 + 1)) D3
def F_X12_next_87 : Nat → Int → Int → Int → Int → td_D → Option (Int × td_D)
  | 0, _, _, _, _, _ => none
  | n + 1, v4, v5, v6, v7, D =>
    if 18 < v7 then
      some (v5, D)
    else
      if v4 ≤ 0 then
        some (v5, D)
      else
        F_X12_next_105 (fun v4 v5 v6 v7 D => F_X12_next_87 n v4 v5 v6 v7 D) tf_N v4 v5 v6 v7 0 0 D
set_option maxHeartbeats 4000000 in
set_option maxRecDepth 20000 in
theorem S_X12_next_87 {l : Launch} {E : tv_E} (hE : tv_hE E) (d : Nat) : ∀ (n : Nat) (v4 : Int) (v5 : Int) (v6 : Int) (v7 : Int) (D : td_D), td_sim l E (d + 4) mX12_next g_m 87 [tv_R 1, tv_U, tv_U, tv_U, tv_I v4, tv_I v5, tv_I v6, tv_I v7, tv_U, tv_U] [] D (F_X12_next_87 n v4 v5 v6 v7 D) := by
  intro n
  induction n with
  | zero => intros; exact tv_none
  | succ n ih =>
    intro v4 v5 v6 v7 D
    show td_sim _ _ _ _ _ _ _ _ _ (F_X12_next_87 (n + 1) v4 v5 v6 v7 D)
    unfold F_X12_next_87
    refine ts_iload rfl dX12_next_87 ?_
    refine ts_bipush rfl dX12_next_89 ?_
    refine td_icmp_gt (tgt := 193) rfl dX12_next_91 ?_ ?_
    · refine ts_iload rfl dX12_next_193 ?_
      exact td_iret rfl dX12_next_195
    · refine ts_iload rfl dX12_next_94 ?_
      refine td_if_le (tgt := 193) rfl dX12_next_96 ?_ ?_
      · refine ts_iload rfl dX12_next_193 ?_
        exact td_iret rfl dX12_next_195
      · refine ts_iconst rfl dX12_next_99 ?_
        refine tq_istore [tv_R 1, tv_U, tv_U, tv_U, tv_I v4, tv_I v5, tv_I v6, tv_I v7, tv_I 0, tv_U] (Nat.le_of_ble_eq_true rfl) rfl rfl dX12_next_100 ?_
        refine ts_iconst rfl dX12_next_102 ?_
        refine tq_istore [tv_R 1, tv_U, tv_U, tv_U, tv_I v4, tv_I v5, tv_I v6, tv_I v7, tv_I 0, tv_I 0] (Nat.le_of_ble_eq_true rfl) rfl rfl dX12_next_103 ?_
        exact S_X12_next_105 hE d (fun v4 v5 v6 v7 D => F_X12_next_87 n v4 v5 v6 v7 D) (fun v4 v5 v6 v7 D => ih v4 v5 v6 v7 D) tf_N v4 v5 v6 v7 0 0 D
def F_X12_next_36 : Nat → Int → Int → Int → Int → td_D → Option (Int × td_D)
  | 0, _, _, _, _, _ => none
  | n + 1, v1, v2, v4, v5, D =>
    if 99 < v5 then
      F_X12_next_87 tf_N v4 ((-2)) 0 0 D
    else
      td_b (F_X12_isSo v1 v2 v5 D) fun r4 D5 =>
      if (0 ≤ v5 ∧ v5 < ((100 : Nat) : Int)) ∧ (r4 = 0 ∨ r4 = 1) then
        td_l (td_upd D5 30 (Int.toNat v5) r4) fun D7 =>
        if 0 ≤ v5 ∧ v5 < ((100 : Nat) : Int) then
          if D7 30 (Int.toNat v5) = 0 then
            F_X12_next_36 n v1 v2 v4 (tv_w (v5 + 1)) D7
          else
            F_X12_next_36 n v1 v2 (tv_w (v4 + 1)) (tv_w (v5 + 1)) D7
        else none
      else none
set_option maxHeartbeats 4000000 in
set_option maxRecDepth 20000 in
theorem S_X12_next_36 {l : Launch} {E : tv_E} (hE : tv_hE E) (d : Nat) : ∀ (n : Nat) (v1 : Int) (v2 : Int) (v4 : Int) (v5 : Int) (D : td_D), td_sim l E (d + 4) mX12_next g_m 36 [tv_R 1, tv_I v1, tv_I v2, tv_U, tv_I v4, tv_I v5, tv_U, tv_U, tv_U, tv_U] [] D (F_X12_next_36 n v1 v2 v4 v5 D) := by
  intro n
  induction n with
  | zero => intros; exact tv_none
  | succ n ih =>
    intro v1 v2 v4 v5 D
    show td_sim _ _ _ _ _ _ _ _ _ (F_X12_next_36 (n + 1) v1 v2 v4 v5 D)
    unfold F_X12_next_36
    refine ts_iload rfl dX12_next_36 ?_
    refine ts_bipush rfl dX12_next_38 ?_
    refine td_icmp_gt (tgt := 77) rfl dX12_next_40 ?_ ?_
    · refine ts_bipush rfl dX12_next_77 ?_
      refine tq_istore [tv_R 1, tv_I v1, tv_I v2, tv_U, tv_I v4, tv_I ((-2)), tv_U, tv_U, tv_U, tv_U] (Nat.le_of_ble_eq_true rfl) rfl rfl dX12_next_79 ?_
      refine ts_iconst rfl dX12_next_81 ?_
      refine tq_istore [tv_R 1, tv_I v1, tv_I v2, tv_U, tv_I v4, tv_I ((-2)), tv_I 0, tv_U, tv_U, tv_U] (Nat.le_of_ble_eq_true rfl) rfl rfl dX12_next_82 ?_
      refine ts_iconst rfl dX12_next_84 ?_
      refine tq_istore [tv_R 1, tv_I v1, tv_I v2, tv_U, tv_I v4, tv_I ((-2)), tv_I 0, tv_I 0, tv_U, tv_U] (Nat.le_of_ble_eq_true rfl) rfl rfl dX12_next_85 ?_
      refine tv_weak (ls' := [tv_R 1, tv_U, tv_U, tv_U, tv_I v4, tv_I ((-2)), tv_I 0, tv_I 0, tv_U, tv_U]) ⟨Or.inr rfl, Or.inl rfl, Or.inl rfl, Or.inl rfl, Or.inr rfl, Or.inr rfl, Or.inr rfl, Or.inr rfl, Or.inl rfl, Or.inl rfl, trivial⟩ ?_
      exact S_X12_next_87 hE d tf_N v4 ((-2)) 0 0 D
    · refine ts_aload_n (i := 0) rfl rfl dX12_next_43 ?_
      refine td_getR (q := 30) tl_X12_97 rfl ga_m_1 rfl dX12_next_44 ?_
      refine ts_iload rfl dX12_next_47 ?_
      refine ts_aload_n (i := 0) rfl rfl dX12_next_49 ?_
      refine ts_iload_n (i := 1) rfl rfl dX12_next_50 ?_
      refine ts_iload_n (i := 2) rfl rfl dX12_next_51 ?_
      refine ts_iload rfl dX12_next_52 ?_
      refine tq_callV (y2 := mX12_isSo) [tv_I v1, tv_I v2, tv_I v5] [tv_I v5, tv_R 30] 1 (st' := fun r4 => [tv_I r4, tv_I v5, tv_R 30]) tw_X12_isSo tx_X12_isSo tw_c12 ga_m_1 tl_X12_370 rfl rfl rfl rfl (fun _ => rfl) dX12_next_54 (S_X12_isSo l hE _ v1 v2 v5 D) (fun r4 D5 => ?_)
      refine td_guard (fun h6 => ?_)
      refine td_zastK ga_m_30 (gn_m_30 _) h6 dX12_next_57 ?_
      refine td_let (fun D7 => ?_)
      refine ts_aload_n (i := 0) rfl rfl dX12_next_58 ?_
      refine td_getR (q := 30) tl_X12_97 rfl ga_m_1 rfl dX12_next_59 ?_
      refine ts_iload rfl dX12_next_62 ?_
      refine td_guard (fun h8 => ?_)
      refine td_zaldK ga_m_30 (gn_m_30 _) h8 dX12_next_64 ?_
      refine td_if_eq (tgt := 71) rfl dX12_next_65 ?_ ?_
      · refine tq_iinc [tv_R 1, tv_I v1, tv_I v2, tv_U, tv_I v4, tv_I (tv_w (v5 + 1)), tv_U, tv_U, tv_U, tv_U] rfl rfl rfl dX12_next_71 ?_
        refine ts_goto (tgt := 36) rfl dX12_next_74 ?_
        exact ih v1 v2 v4 (tv_w (v5 + 1)) D7
      · refine tq_iinc [tv_R 1, tv_I v1, tv_I v2, tv_U, tv_I (tv_w (v4 + 1)), tv_I v5, tv_U, tv_U, tv_U, tv_U] rfl rfl rfl dX12_next_68 ?_
        refine tq_iinc [tv_R 1, tv_I v1, tv_I v2, tv_U, tv_I (tv_w (v4 + 1)), tv_I (tv_w (v5 + 1)), tv_U, tv_U, tv_U, tv_U] rfl rfl rfl dX12_next_71 ?_
        refine ts_goto (tgt := 36) rfl dX12_next_74 ?_
        exact ih v1 v2 (tv_w (v4 + 1)) (tv_w (v5 + 1)) D7
def F_X12_next (a1 : Int) (a2 : Int) (D : td_D) : Option (Int × td_D) :=
  td_b (F_X12_isShelf a1 D) fun r9 D10 =>
  if r9 = 0 then
    some ((-1), D10)
  else
    td_b (F_X12_isHive a2 D10) fun r11 D12 =>
    if r11 = 0 then
      some ((-1), D12)
    else
      td_b (F_X12_rowFault a1 0 D12) fun r13 D14 =>
      if 0 ≤ r13 then
        F_X12_next_36 tf_N a1 a2 0 0 D14
      else
        some (r13, D14)
set_option maxHeartbeats 4000000 in
set_option maxRecDepth 20000 in
theorem S_X12_next (l : Launch) {E : tv_E} (hE : tv_hE E) (d : Nat) (a1 : Int) (a2 : Int) (D : td_D) : td_msim l E (d + 4) mX12_next g_m [tv_R 1, tv_I a1, tv_I a2] D (F_X12_next a1 a2 D) := by
  refine td_meetL (ls := [tv_R 1, tv_I a1, tv_I a2, tv_U, tv_U, tv_U, tv_U, tv_U, tv_U, tv_U]) rfl (Nat.le_of_ble_eq_true rfl) rfl ?_
  unfold F_X12_next
  refine ts_iload_n (i := 1) rfl rfl dX12_next_0 ?_
  refine tq_callS (y2 := mX12_isShelf) [tv_I a1] [] (st' := fun r9 => [tv_I r9]) tw_X12_isShelf tx_X12_isShelf tl_X12_167 rfl rfl rfl rfl (fun _ => rfl) dX12_next_1 (S_X12_isShelf l hE _ a1 D) (fun r9 D10 => ?_)
  refine td_if_eq (tgt := 15) rfl dX12_next_4 ?_ ?_
  · refine ts_iconst rfl dX12_next_15 ?_
    exact td_iret rfl dX12_next_16
  · refine ts_aload_n (i := 0) rfl rfl dX12_next_7 ?_
    refine ts_iload_n (i := 2) rfl rfl dX12_next_8 ?_
    refine tq_callV (y2 := mX12_isHive) [tv_I a2] [] 1 (st' := fun r11 => [tv_I r11]) tw_X12_isHive tx_X12_isHive tw_c12 ga_m_1 tl_X12_185 rfl rfl rfl rfl (fun _ => rfl) dX12_next_9 (S_X12_isHive l hE _ a2 D10) (fun r11 D12 => ?_)
    refine td_if_ne (tgt := 17) rfl dX12_next_12 ?_ ?_
    · refine ts_iconst rfl dX12_next_15 ?_
      exact td_iret rfl dX12_next_16
    · refine ts_aload_n (i := 0) rfl rfl dX12_next_17 ?_
      refine ts_iload_n (i := 1) rfl rfl dX12_next_18 ?_
      refine ts_iconst rfl dX12_next_19 ?_
      refine tq_callV (y2 := mX12_rowFault) [tv_I a1, tv_I 0] [] 1 (st' := fun r13 => [tv_I r13]) tw_X12_rowFault tx_X12_rowFault tw_c12 ga_m_1 tl_X12_319 rfl rfl rfl rfl (fun _ => rfl) dX12_next_20 (S_X12_rowFault l hE _ a1 0 D12) (fun r13 D14 => ?_)
      refine tq_istore_n [tv_R 1, tv_I a1, tv_I a2, tv_I r13, tv_U, tv_U, tv_U, tv_U, tv_U, tv_U] rfl (Nat.le_of_ble_eq_true rfl) rfl rfl dX12_next_23 ?_
      refine ts_iload_n (i := 3) rfl rfl dX12_next_24 ?_
      refine td_if_ge (tgt := 30) rfl dX12_next_25 ?_ ?_
      · refine ts_iconst rfl dX12_next_30 ?_
        refine tq_istore [tv_R 1, tv_I a1, tv_I a2, tv_I r13, tv_I 0, tv_U, tv_U, tv_U, tv_U, tv_U] (Nat.le_of_ble_eq_true rfl) rfl rfl dX12_next_31 ?_
        refine ts_iconst rfl dX12_next_33 ?_
        refine tq_istore [tv_R 1, tv_I a1, tv_I a2, tv_I r13, tv_I 0, tv_I 0, tv_U, tv_U, tv_U, tv_U] (Nat.le_of_ble_eq_true rfl) rfl rfl dX12_next_34 ?_
        refine tv_weak (ls' := [tv_R 1, tv_I a1, tv_I a2, tv_U, tv_I 0, tv_I 0, tv_U, tv_U, tv_U, tv_U]) ⟨Or.inr rfl, Or.inr rfl, Or.inr rfl, Or.inl rfl, Or.inr rfl, Or.inr rfl, Or.inl rfl, Or.inl rfl, Or.inl rfl, Or.inl rfl, trivial⟩ ?_
        exact S_X12_next_36 hE d tf_N a1 a2 0 0 D14
      · refine ts_iload_n (i := 3) rfl rfl dX12_next_28 ?_
        exact td_iret rfl dX12_next_29
def F_X12_costBy (a1 : Int) (D : td_D) : Option (Int × td_D) :=
  if D 8 (Int.toNat 2) ≤ tv_div a1 10 then
    some (tv_w ((tv_w (0 * (D 8 (Int.toNat 3)))) + (tv_w (12 * (tv_div a1 5)))), D)
  else
    some (tv_w ((tv_w ((tv_w ((D 8 (Int.toNat 2)) - (tv_div a1 10))) * (D 8 (Int.toNat 3)))) + (tv_w (12 * (tv_div a1 5)))), D)
set_option maxHeartbeats 4000000 in
set_option maxRecDepth 20000 in
theorem S_X12_costBy (l : Launch) {E : tv_E} (hE : tv_hE E) (d : Nat) (a1 : Int) (D : td_D) : td_msim l E (d + 0) mX12_costBy g_m [tv_R 1, tv_I a1] D (F_X12_costBy a1 D) := by
  refine td_meetL (ls := [tv_R 1, tv_I a1, tv_U]) rfl (Nat.le_of_ble_eq_true rfl) rfl ?_
  unfold F_X12_costBy
  refine ts_aload_n (i := 0) rfl rfl dX12_costBy_0 ?_
  refine td_getR (q := 8) tl_X12_28 rfl ga_m_1 rfl dX12_costBy_1 ?_
  refine ts_iconst rfl dX12_costBy_4 ?_
  refine td_ialdK ga_m_8 (gn_m_8 _) ⟨by decide, by decide⟩ dX12_costBy_5 ?_
  refine ts_iload_n (i := 1) rfl rfl dX12_costBy_6 ?_
  refine ts_bipush rfl dX12_costBy_7 ?_
  refine td_idivK (by decide) dX12_costBy_9 ?_
  refine td_icmp_le (tgt := 27) rfl dX12_costBy_10 ?_ ?_
  · refine ts_iconst rfl dX12_costBy_27 ?_
    refine tq_istore_n [tv_R 1, tv_I a1, tv_I 0] rfl (Nat.le_of_ble_eq_true rfl) rfl rfl dX12_costBy_28 ?_
    refine ts_iload_n (i := 2) rfl rfl dX12_costBy_29 ?_
    refine ts_aload_n (i := 0) rfl rfl dX12_costBy_30 ?_
    refine td_getR (q := 8) tl_X12_28 rfl ga_m_1 rfl dX12_costBy_31 ?_
    refine ts_iconst rfl dX12_costBy_34 ?_
    refine td_ialdK ga_m_8 (gn_m_8 _) ⟨by decide, by decide⟩ dX12_costBy_35 ?_
    refine ts_imul dX12_costBy_36 ?_
    refine ts_bipush rfl dX12_costBy_37 ?_
    refine ts_iload_n (i := 1) rfl rfl dX12_costBy_39 ?_
    refine ts_iconst rfl dX12_costBy_40 ?_
    refine td_idivK (by decide) dX12_costBy_41 ?_
    refine ts_imul dX12_costBy_42 ?_
    refine ts_iadd dX12_costBy_43 ?_
    exact td_iret rfl dX12_costBy_44
  · refine ts_aload_n (i := 0) rfl rfl dX12_costBy_13 ?_
    refine td_getR (q := 8) tl_X12_28 rfl ga_m_1 rfl dX12_costBy_14 ?_
    refine ts_iconst rfl dX12_costBy_17 ?_
    refine td_ialdK ga_m_8 (gn_m_8 _) ⟨by decide, by decide⟩ dX12_costBy_18 ?_
    refine ts_iload_n (i := 1) rfl rfl dX12_costBy_19 ?_
    refine ts_bipush rfl dX12_costBy_20 ?_
    refine td_idivK (by decide) dX12_costBy_22 ?_
    refine ts_isub dX12_costBy_23 ?_
    refine ts_goto (tgt := 28) rfl dX12_costBy_24 ?_
    refine tq_istore_n [tv_R 1, tv_I a1, tv_I (tv_w ((D 8 (Int.toNat 2)) - (tv_div a1 10)))] rfl (Nat.le_of_ble_eq_true rfl) rfl rfl dX12_costBy_28 ?_
    refine ts_iload_n (i := 2) rfl rfl dX12_costBy_29 ?_
    refine ts_aload_n (i := 0) rfl rfl dX12_costBy_30 ?_
    refine td_getR (q := 8) tl_X12_28 rfl ga_m_1 rfl dX12_costBy_31 ?_
    refine ts_iconst rfl dX12_costBy_34 ?_
    refine td_ialdK ga_m_8 (gn_m_8 _) ⟨by decide, by decide⟩ dX12_costBy_35 ?_
    refine ts_imul dX12_costBy_36 ?_
    refine ts_bipush rfl dX12_costBy_37 ?_
    refine ts_iload_n (i := 1) rfl rfl dX12_costBy_39 ?_
    refine ts_iconst rfl dX12_costBy_40 ?_
    refine td_idivK (by decide) dX12_costBy_41 ?_
    refine ts_imul dX12_costBy_42 ?_
    refine ts_iadd dX12_costBy_43 ?_
    exact td_iret rfl dX12_costBy_44
def F_X12_leave_15 : Nat → Int → Int → Int → td_D → Option (Int × td_D)
  | 0, _, _, _, _ => none
  | n + 1, v1, v2, v3, D =>
    if 99 < v3 then
      if v1 = 0 then
        some (v2, D)
      else
        td_b (F_X12_costBy v2 D) fun r1 D2 =>
        some (r1, D2)
    else
      td_b (F_X12_costBy v3 D) fun r3 D4 =>
      td_b (F_X12_costBy v2 D4) fun r5 D6 =>
      if r5 ≤ r3 then
        F_X12_leave_15 n v1 v2 (tv_w (v3 + 1)) D6
      else
        F_X12_leave_15 n v1 v3 (tv_w (v3 + 1)) D6
set_option maxHeartbeats 4000000 in
set_option maxRecDepth 20000 in
theorem S_X12_leave_15 {l : Launch} {E : tv_E} (hE : tv_hE E) (d : Nat) : ∀ (n : Nat) (v1 : Int) (v2 : Int) (v3 : Int) (D : td_D), td_sim l E (d + 1) mX12_leave g_m 15 [tv_R 1, tv_I v1, tv_I v2, tv_I v3] [] D (F_X12_leave_15 n v1 v2 v3 D) := by
  intro n
  induction n with
  | zero => intros; exact tv_none
  | succ n ih =>
    intro v1 v2 v3 D
    show td_sim _ _ _ _ _ _ _ _ _ (F_X12_leave_15 (n + 1) v1 v2 v3 D)
    unfold F_X12_leave_15
    refine ts_iload_n (i := 3) rfl rfl dX12_leave_15 ?_
    refine ts_bipush rfl dX12_leave_16 ?_
    refine td_icmp_gt (tgt := 42) rfl dX12_leave_18 ?_ ?_
    · refine ts_iload_n (i := 1) rfl rfl dX12_leave_42 ?_
      refine td_if_ne (tgt := 50) rfl dX12_leave_43 ?_ ?_
      · refine ts_iload_n (i := 2) rfl rfl dX12_leave_46 ?_
        refine ts_goto (tgt := 55) rfl dX12_leave_47 ?_
        exact td_iret rfl dX12_leave_55
      · refine ts_aload_n (i := 0) rfl rfl dX12_leave_50 ?_
        refine ts_iload_n (i := 2) rfl rfl dX12_leave_51 ?_
        refine tq_callV (y2 := mX12_costBy) [tv_I v2] [] 1 (st' := fun r1 => [tv_I r1]) tw_X12_costBy tx_X12_costBy tw_c12 ga_m_1 tl_X12_373 rfl rfl rfl rfl (fun _ => rfl) dX12_leave_52 (S_X12_costBy l hE _ v2 D) (fun r1 D2 => ?_)
        exact td_iret rfl dX12_leave_55
    · refine ts_aload_n (i := 0) rfl rfl dX12_leave_21 ?_
      refine ts_iload_n (i := 3) rfl rfl dX12_leave_22 ?_
      refine tq_callV (y2 := mX12_costBy) [tv_I v3] [] 1 (st' := fun r3 => [tv_I r3]) tw_X12_costBy tx_X12_costBy tw_c12 ga_m_1 tl_X12_373 rfl rfl rfl rfl (fun _ => rfl) dX12_leave_23 (S_X12_costBy l hE _ v3 D) (fun r3 D4 => ?_)
      refine ts_aload_n (i := 0) rfl rfl dX12_leave_26 ?_
      refine ts_iload_n (i := 2) rfl rfl dX12_leave_27 ?_
      refine tq_callV (y2 := mX12_costBy) [tv_I v2] [tv_I r3] 1 (st' := fun r5 => [tv_I r5, tv_I r3]) tw_X12_costBy tx_X12_costBy tw_c12 ga_m_1 tl_X12_373 rfl rfl rfl rfl (fun _ => rfl) dX12_leave_28 (S_X12_costBy l hE _ v2 D4) (fun r5 D6 => ?_)
      refine td_icmp_ge (tgt := 36) rfl dX12_leave_31 ?_ ?_
      · refine tq_iinc [tv_R 1, tv_I v1, tv_I v2, tv_I (tv_w (v3 + 1))] rfl rfl rfl dX12_leave_36 ?_
        refine ts_goto (tgt := 15) rfl dX12_leave_39 ?_
        exact ih v1 v2 (tv_w (v3 + 1)) D6
      · refine ts_iload_n (i := 3) rfl rfl dX12_leave_34 ?_
        refine tq_istore_n [tv_R 1, tv_I v1, tv_I v3, tv_I v3] rfl (Nat.le_of_ble_eq_true rfl) rfl rfl dX12_leave_35 ?_
        refine tq_iinc [tv_R 1, tv_I v1, tv_I v3, tv_I (tv_w (v3 + 1))] rfl rfl rfl dX12_leave_36 ?_
        refine ts_goto (tgt := 15) rfl dX12_leave_39 ?_
        exact ih v1 v3 (tv_w (v3 + 1)) D6
def F_X12_leave (a1 : Int) (D : td_D) : Option (Int × td_D) :=
  td_b (F_X12_in a1 0 1 D) fun r7 D8 =>
  if r7 = 0 then
    some ((-1), D8)
  else
    F_X12_leave_15 tf_N a1 0 1 D8
set_option maxHeartbeats 4000000 in
set_option maxRecDepth 20000 in
theorem S_X12_leave (l : Launch) {E : tv_E} (hE : tv_hE E) (d : Nat) (a1 : Int) (D : td_D) : td_msim l E (d + 1) mX12_leave g_m [tv_R 1, tv_I a1] D (F_X12_leave a1 D) := by
  refine td_meetL (ls := [tv_R 1, tv_I a1, tv_U, tv_U]) rfl (Nat.le_of_ble_eq_true rfl) rfl ?_
  unfold F_X12_leave
  refine ts_iload_n (i := 1) rfl rfl dX12_leave_0 ?_
  refine ts_iconst rfl dX12_leave_1 ?_
  refine ts_iconst rfl dX12_leave_2 ?_
  refine tq_callS (y2 := mX12_in) [tv_I a1, tv_I 0, tv_I 1] [] (st' := fun r7 => [tv_I r7]) tw_X12_in tx_X12_in tl_X12_142 rfl rfl rfl rfl (fun _ => rfl) dX12_leave_3 (S_X12_in l hE _ a1 0 1 D) (fun r7 D8 => ?_)
  refine td_if_ne (tgt := 11) rfl dX12_leave_6 ?_ ?_
  · refine ts_iconst rfl dX12_leave_9 ?_
    exact td_iret rfl dX12_leave_10
  · refine ts_iconst rfl dX12_leave_11 ?_
    refine tq_istore_n [tv_R 1, tv_I a1, tv_I 0, tv_U] rfl (Nat.le_of_ble_eq_true rfl) rfl rfl dX12_leave_12 ?_
    refine ts_iconst rfl dX12_leave_13 ?_
    refine tq_istore_n [tv_R 1, tv_I a1, tv_I 0, tv_I 1] rfl (Nat.le_of_ble_eq_true rfl) rfl rfl dX12_leave_14 ?_
    exact S_X12_leave_15 hE d tf_N a1 0 1 D8
def F_X12_judge_24 : Nat → Int → Int → td_D → Option (Int × td_D)
  | 0, _, _, _ => none
  | n + 1, v1, v3, D =>
    if 0 ≤ v1 ∧ v1 < ((6 : Nat) : Int) then
      if D 38 (Int.toNat v1) ≤ tv_w (2 * v3) then
        some ((-2), D)
      else
        td_b (F_X12_at v1 (tv_w (2 * v3)) D) fun r2 D3 =>
        if D3 38 (Int.toNat v1) ≤ tv_w ((tv_w (2 * v3)) + 1) then
          some (v3, D3)
        else
          td_b (F_X12_isPerson r2 D3) fun r4 D5 =>
          if r4 = 0 then
            some (v3, D5)
          else
            td_b (F_X12_at v1 (tv_w ((tv_w (2 * v3)) + 1)) D5) fun r6 D7 =>
            if 0 ≤ r2 ∧ r2 < ((6 : Nat) : Int) then
              if r6 = D7 2 (Int.toNat r2) then
                F_X12_judge_24 n v1 (tv_w (v3 + 1)) D7
              else
                some (v3, D7)
            else none
    else none
set_option maxHeartbeats 4000000 in
set_option maxRecDepth 20000 in
theorem S_X12_judge_24 {l : Launch} {E : tv_E} (hE : tv_hE E) (d : Nat) : ∀ (n : Nat) (v1 : Int) (v3 : Int) (D : td_D), td_sim l E (d + 2) mX12_judge g_m 24 [tv_R 1, tv_I v1, tv_U, tv_I v3, tv_U] [] D (F_X12_judge_24 n v1 v3 D) := by
  intro n
  induction n with
  | zero => intros; exact tv_none
  | succ n ih =>
    intro v1 v3 D
    show td_sim _ _ _ _ _ _ _ _ _ (F_X12_judge_24 (n + 1) v1 v3 D)
    unfold F_X12_judge_24
    refine ts_iconst rfl dX12_judge_24 ?_
    refine ts_iload_n (i := 3) rfl rfl dX12_judge_25 ?_
    refine ts_imul dX12_judge_26 ?_
    refine ts_aload_n (i := 0) rfl rfl dX12_judge_27 ?_
    refine td_getR (q := 38) tl_X12_121 rfl ga_m_1 rfl dX12_judge_28 ?_
    refine ts_iload_n (i := 1) rfl rfl dX12_judge_31 ?_
    refine td_guard (fun h1 => ?_)
    refine td_ialdK ga_m_38 (gn_m_38 _) h1 dX12_judge_32 ?_
    refine td_icmp_ge (tgt := 97) rfl dX12_judge_33 ?_ ?_
    · refine ts_bipush rfl dX12_judge_97 ?_
      exact td_iret rfl dX12_judge_99
    · refine ts_aload_n (i := 0) rfl rfl dX12_judge_36 ?_
      refine ts_iload_n (i := 1) rfl rfl dX12_judge_37 ?_
      refine ts_iconst rfl dX12_judge_38 ?_
      refine ts_iload_n (i := 3) rfl rfl dX12_judge_39 ?_
      refine ts_imul dX12_judge_40 ?_
      refine tq_callV (y2 := mX12_at) [tv_I v1, tv_I (tv_w (2 * v3))] [] 1 (st' := fun r2 => [tv_I r2]) tw_X12_at tx_X12_at tw_c12 ga_m_1 tl_X12_307 rfl rfl rfl rfl (fun _ => rfl) dX12_judge_41 (S_X12_at l hE _ v1 (tv_w (2 * v3)) D) (fun r2 D3 => ?_)
      refine tq_istore [tv_R 1, tv_I v1, tv_U, tv_I v3, tv_I r2] (Nat.le_of_ble_eq_true rfl) rfl rfl dX12_judge_44 ?_
      refine ts_iconst rfl dX12_judge_46 ?_
      refine ts_iload_n (i := 3) rfl rfl dX12_judge_47 ?_
      refine ts_imul dX12_judge_48 ?_
      refine ts_iconst rfl dX12_judge_49 ?_
      refine ts_iadd dX12_judge_50 ?_
      refine ts_aload_n (i := 0) rfl rfl dX12_judge_51 ?_
      refine td_getR (q := 38) tl_X12_121 rfl ga_m_1 rfl dX12_judge_52 ?_
      refine ts_iload_n (i := 1) rfl rfl dX12_judge_55 ?_
      refine td_ialdK ga_m_38 (gn_m_38 _) h1 dX12_judge_56 ?_
      refine td_icmp_ge (tgt := 89) rfl dX12_judge_57 ?_ ?_
      · refine ts_iload_n (i := 3) rfl rfl dX12_judge_89 ?_
        exact td_iret rfl dX12_judge_90
      · refine ts_aload_n (i := 0) rfl rfl dX12_judge_60 ?_
        refine ts_iload rfl dX12_judge_61 ?_
        refine tq_callV (y2 := mX12_isPerson) [tv_I r2] [] 1 (st' := fun r4 => [tv_I r4]) tw_X12_isPerson tx_X12_isPerson tw_c12 ga_m_1 tl_X12_188 rfl rfl rfl rfl (fun _ => rfl) dX12_judge_63 (S_X12_isPerson l hE _ r2 D3) (fun r4 D5 => ?_)
        refine td_if_eq (tgt := 89) rfl dX12_judge_66 ?_ ?_
        · refine ts_iload_n (i := 3) rfl rfl dX12_judge_89 ?_
          exact td_iret rfl dX12_judge_90
        · refine ts_aload_n (i := 0) rfl rfl dX12_judge_69 ?_
          refine ts_iload_n (i := 1) rfl rfl dX12_judge_70 ?_
          refine ts_iconst rfl dX12_judge_71 ?_
          refine ts_iload_n (i := 3) rfl rfl dX12_judge_72 ?_
          refine ts_imul dX12_judge_73 ?_
          refine ts_iconst rfl dX12_judge_74 ?_
          refine ts_iadd dX12_judge_75 ?_
          refine tq_callV (y2 := mX12_at) [tv_I v1, tv_I (tv_w ((tv_w (2 * v3)) + 1))] [] 1 (st' := fun r6 => [tv_I r6]) tw_X12_at tx_X12_at tw_c12 ga_m_1 tl_X12_307 rfl rfl rfl rfl (fun _ => rfl) dX12_judge_76 (S_X12_at l hE _ v1 (tv_w ((tv_w (2 * v3)) + 1)) D5) (fun r6 D7 => ?_)
          refine ts_aload_n (i := 0) rfl rfl dX12_judge_79 ?_
          refine td_getR (q := 2) tl_X12_7 rfl ga_m_1 rfl dX12_judge_80 ?_
          refine ts_iload rfl dX12_judge_83 ?_
          refine td_guard (fun h8 => ?_)
          refine td_ialdK ga_m_2 (gn_m_2 _) h8 dX12_judge_85 ?_
          refine td_icmp_eq (tgt := 91) rfl dX12_judge_86 ?_ ?_
          · refine tq_iinc [tv_R 1, tv_I v1, tv_U, tv_I (tv_w (v3 + 1)), tv_I r2] rfl rfl rfl dX12_judge_91 ?_
            refine ts_goto (tgt := 24) rfl dX12_judge_94 ?_
            refine tv_weak (ls' := [tv_R 1, tv_I v1, tv_U, tv_I (tv_w (v3 + 1)), tv_U]) ⟨Or.inr rfl, Or.inr rfl, Or.inl rfl, Or.inr rfl, Or.inl rfl, trivial⟩ ?_
            exact ih v1 (tv_w (v3 + 1)) D7
          · refine ts_iload_n (i := 3) rfl rfl dX12_judge_89 ?_
            exact td_iret rfl dX12_judge_90
def F_X12_judge (a1 : Int) (D : td_D) : Option (Int × td_D) :=
  td_b (F_X12_isShelf a1 D) fun r9 D10 =>
  if r9 = 0 then
    some ((-1), D10)
  else
    td_b (F_X12_rowFault a1 1 D10) fun r11 D12 =>
    if 0 ≤ r11 then
      F_X12_judge_24 tf_N a1 0 D12
    else
      some (r11, D12)
set_option maxHeartbeats 4000000 in
set_option maxRecDepth 20000 in
theorem S_X12_judge (l : Launch) {E : tv_E} (hE : tv_hE E) (d : Nat) (a1 : Int) (D : td_D) : td_msim l E (d + 2) mX12_judge g_m [tv_R 1, tv_I a1] D (F_X12_judge a1 D) := by
  refine td_meetL (ls := [tv_R 1, tv_I a1, tv_U, tv_U, tv_U]) rfl (Nat.le_of_ble_eq_true rfl) rfl ?_
  unfold F_X12_judge
  refine ts_iload_n (i := 1) rfl rfl dX12_judge_0 ?_
  refine tq_callS (y2 := mX12_isShelf) [tv_I a1] [] (st' := fun r9 => [tv_I r9]) tw_X12_isShelf tx_X12_isShelf tl_X12_167 rfl rfl rfl rfl (fun _ => rfl) dX12_judge_1 (S_X12_isShelf l hE _ a1 D) (fun r9 D10 => ?_)
  refine td_if_ne (tgt := 9) rfl dX12_judge_4 ?_ ?_
  · refine ts_iconst rfl dX12_judge_7 ?_
    exact td_iret rfl dX12_judge_8
  · refine ts_aload_n (i := 0) rfl rfl dX12_judge_9 ?_
    refine ts_iload_n (i := 1) rfl rfl dX12_judge_10 ?_
    refine ts_iconst rfl dX12_judge_11 ?_
    refine tq_callV (y2 := mX12_rowFault) [tv_I a1, tv_I 1] [] 1 (st' := fun r11 => [tv_I r11]) tw_X12_rowFault tx_X12_rowFault tw_c12 ga_m_1 tl_X12_319 rfl rfl rfl rfl (fun _ => rfl) dX12_judge_12 (S_X12_rowFault l hE _ a1 1 D10) (fun r11 D12 => ?_)
    refine tq_istore_n [tv_R 1, tv_I a1, tv_I r11, tv_U, tv_U] rfl (Nat.le_of_ble_eq_true rfl) rfl rfl dX12_judge_15 ?_
    refine ts_iload_n (i := 2) rfl rfl dX12_judge_16 ?_
    refine td_if_ge (tgt := 22) rfl dX12_judge_17 ?_ ?_
    · refine ts_iconst rfl dX12_judge_22 ?_
      refine tq_istore_n [tv_R 1, tv_I a1, tv_I r11, tv_I 0, tv_U] rfl (Nat.le_of_ble_eq_true rfl) rfl rfl dX12_judge_23 ?_
      refine tv_weak (ls' := [tv_R 1, tv_I a1, tv_U, tv_I 0, tv_U]) ⟨Or.inr rfl, Or.inr rfl, Or.inl rfl, Or.inr rfl, Or.inl rfl, trivial⟩ ?_
      exact S_X12_judge_24 hE d tf_N a1 0 D12
    · refine ts_iload_n (i := 2) rfl rfl dX12_judge_20 ?_
      exact td_iret rfl dX12_judge_21
def F_X12_from_25 : Nat → Int → Int → Int → Int → td_D → Option (Int × td_D)
  | 0, _, _, _, _, _ => none
  | n + 1, v1, v2, v3, v4, D =>
    if D 1 3 ≤ v4 then
      some (v3, D)
    else
      if 0 ≤ v1 ∧ v1 < ((6 : Nat) : Int) then
        if D 2 (Int.toNat v1) < v2 then
          F_X12_from_25 n v1 v2 v3 (tv_w (v4 + 1)) D
        else
          if 0 ≤ tv_w ((tv_w (6 * v4)) + v1) ∧ tv_w ((tv_w (6 * v4)) + v1) < ((30 : Nat) : Int) then
            if 99 < tv_w ((D 4 (Int.toNat (tv_w ((tv_w (6 * v4)) + v1)))) + v2) then
              F_X12_from_25 n v1 v2 v3 (tv_w (v4 + 1)) D
            else
              F_X12_from_25 n v1 v2 (tv_or v3 (tv_shl 1 v4)) (tv_w (v4 + 1)) D
          else none
      else none
set_option maxHeartbeats 4000000 in
set_option maxRecDepth 20000 in
theorem S_X12_from_25 {l : Launch} {E : tv_E} (hE : tv_hE E) (d : Nat) : ∀ (n : Nat) (v1 : Int) (v2 : Int) (v3 : Int) (v4 : Int) (D : td_D), td_sim l E (d + 2) mX12_from g_m 25 [tv_R 1, tv_I v1, tv_I v2, tv_I v3, tv_I v4] [] D (F_X12_from_25 n v1 v2 v3 v4 D) := by
  intro n
  induction n with
  | zero => intros; exact tv_none
  | succ n ih =>
    intro v1 v2 v3 v4 D
    show td_sim _ _ _ _ _ _ _ _ _ (F_X12_from_25 (n + 1) v1 v2 v3 v4 D)
    unfold F_X12_from_25
    refine ts_iload rfl dX12_from_25 ?_
    refine ts_aload_n (i := 0) rfl rfl dX12_from_27 ?_
    refine td_getI tl_X12_146 rfl ga_m_1 rfl dX12_from_28 ?_
    refine td_icmp_ge (tgt := 76) rfl dX12_from_31 ?_ ?_
    · refine ts_iload_n (i := 3) rfl rfl dX12_from_76 ?_
      exact td_iret rfl dX12_from_77
    · refine ts_aload_n (i := 0) rfl rfl dX12_from_34 ?_
      refine td_getR (q := 2) tl_X12_7 rfl ga_m_1 rfl dX12_from_35 ?_
      refine ts_iload_n (i := 1) rfl rfl dX12_from_38 ?_
      refine td_guard (fun h1 => ?_)
      refine td_ialdK ga_m_2 (gn_m_2 _) h1 dX12_from_39 ?_
      refine ts_iload_n (i := 2) rfl rfl dX12_from_40 ?_
      refine td_icmp_lt (tgt := 70) rfl dX12_from_41 ?_ ?_
      · refine tq_iinc [tv_R 1, tv_I v1, tv_I v2, tv_I v3, tv_I (tv_w (v4 + 1))] rfl rfl rfl dX12_from_70 ?_
        refine ts_goto (tgt := 25) rfl dX12_from_73 ?_
        exact ih v1 v2 v3 (tv_w (v4 + 1)) D
      · refine ts_aload_n (i := 0) rfl rfl dX12_from_44 ?_
        refine td_getR (q := 4) tl_X12_16 rfl ga_m_1 rfl dX12_from_45 ?_
        refine ts_bipush rfl dX12_from_48 ?_
        refine ts_iload rfl dX12_from_50 ?_
        refine ts_imul dX12_from_52 ?_
        refine ts_iload_n (i := 1) rfl rfl dX12_from_53 ?_
        refine ts_iadd dX12_from_54 ?_
        refine td_guard (fun h2 => ?_)
        refine td_ialdK ga_m_4 (gn_m_4 _) h2 dX12_from_55 ?_
        refine ts_iload_n (i := 2) rfl rfl dX12_from_56 ?_
        refine ts_iadd dX12_from_57 ?_
        refine ts_bipush rfl dX12_from_58 ?_
        refine td_icmp_gt (tgt := 70) rfl dX12_from_60 ?_ ?_
        · refine tq_iinc [tv_R 1, tv_I v1, tv_I v2, tv_I v3, tv_I (tv_w (v4 + 1))] rfl rfl rfl dX12_from_70 ?_
          refine ts_goto (tgt := 25) rfl dX12_from_73 ?_
          exact ih v1 v2 v3 (tv_w (v4 + 1)) D
        · refine ts_iload_n (i := 3) rfl rfl dX12_from_63 ?_
          refine ts_iconst rfl dX12_from_64 ?_
          refine ts_iload rfl dX12_from_65 ?_
          refine ts_ishl dX12_from_67 ?_
          refine ts_ior dX12_from_68 ?_
          refine tq_istore_n [tv_R 1, tv_I v1, tv_I v2, tv_I (tv_or v3 (tv_shl 1 v4)), tv_I v4] rfl (Nat.le_of_ble_eq_true rfl) rfl rfl dX12_from_69 ?_
          refine tq_iinc [tv_R 1, tv_I v1, tv_I v2, tv_I (tv_or v3 (tv_shl 1 v4)), tv_I (tv_w (v4 + 1))] rfl rfl rfl dX12_from_70 ?_
          refine ts_goto (tgt := 25) rfl dX12_from_73 ?_
          exact ih v1 v2 (tv_or v3 (tv_shl 1 v4)) (tv_w (v4 + 1)) D
def F_X12_from (a1 : Int) (a2 : Int) (D : td_D) : Option (Int × td_D) :=
  td_b (F_X12_isPerson a1 D) fun r3 D4 =>
  if r3 = 0 then
    some ((-1), D4)
  else
    td_b (F_X12_in a2 1 99 D4) fun r5 D6 =>
    if r5 = 0 then
      some ((-1), D6)
    else
      F_X12_from_25 tf_N a1 a2 0 0 D6
set_option maxHeartbeats 4000000 in
set_option maxRecDepth 20000 in
theorem S_X12_from (l : Launch) {E : tv_E} (hE : tv_hE E) (d : Nat) (a1 : Int) (a2 : Int) (D : td_D) : td_msim l E (d + 2) mX12_from g_m [tv_R 1, tv_I a1, tv_I a2] D (F_X12_from a1 a2 D) := by
  refine td_meetL (ls := [tv_R 1, tv_I a1, tv_I a2, tv_U, tv_U]) rfl (Nat.le_of_ble_eq_true rfl) rfl ?_
  unfold F_X12_from
  refine ts_aload_n (i := 0) rfl rfl dX12_from_0 ?_
  refine ts_iload_n (i := 1) rfl rfl dX12_from_1 ?_
  refine tq_callV (y2 := mX12_isPerson) [tv_I a1] [] 1 (st' := fun r3 => [tv_I r3]) tw_X12_isPerson tx_X12_isPerson tw_c12 ga_m_1 tl_X12_188 rfl rfl rfl rfl (fun _ => rfl) dX12_from_2 (S_X12_isPerson l hE _ a1 D) (fun r3 D4 => ?_)
  refine td_if_eq (tgt := 18) rfl dX12_from_5 ?_ ?_
  · refine ts_iconst rfl dX12_from_18 ?_
    exact td_iret rfl dX12_from_19
  · refine ts_iload_n (i := 2) rfl rfl dX12_from_8 ?_
    refine ts_iconst rfl dX12_from_9 ?_
    refine ts_bipush rfl dX12_from_10 ?_
    refine tq_callS (y2 := mX12_in) [tv_I a2, tv_I 1, tv_I 99] [] (st' := fun r5 => [tv_I r5]) tw_X12_in tx_X12_in tl_X12_142 rfl rfl rfl rfl (fun _ => rfl) dX12_from_12 (S_X12_in l hE _ a2 1 99 D4) (fun r5 D6 => ?_)
    refine td_if_ne (tgt := 20) rfl dX12_from_15 ?_ ?_
    · refine ts_iconst rfl dX12_from_18 ?_
      exact td_iret rfl dX12_from_19
    · refine ts_iconst rfl dX12_from_20 ?_
      refine tq_istore_n [tv_R 1, tv_I a1, tv_I a2, tv_I 0, tv_U] rfl (Nat.le_of_ble_eq_true rfl) rfl rfl dX12_from_21 ?_
      refine ts_iconst rfl dX12_from_22 ?_
      refine tq_istore [tv_R 1, tv_I a1, tv_I a2, tv_I 0, tv_I 0] (Nat.le_of_ble_eq_true rfl) rfl rfl dX12_from_23 ?_
      exact S_X12_from_25 hE d tf_N a1 a2 0 0 D6
def F_X12_allOfAll_4 : Nat → Int → Int → td_D → Option (Int × td_D)
  | 0, _, _, _ => none
  | n + 1, v1, v2, D =>
    if D 1 3 ≤ v2 then
      some (v1, D)
    else
      td_b (F_X12_allIn v2 D) fun r1 D2 =>
      F_X12_allOfAll_4 n (tv_w (v1 + r1)) (tv_w (v2 + 1)) D2
set_option maxHeartbeats 4000000 in
set_option maxRecDepth 20000 in
theorem S_X12_allOfAll_4 {l : Launch} {E : tv_E} (hE : tv_hE E) (d : Nat) : ∀ (n : Nat) (v1 : Int) (v2 : Int) (D : td_D), td_sim l E (d + 1) mX12_allOfAll g_m 4 [tv_R 1, tv_I v1, tv_I v2] [] D (F_X12_allOfAll_4 n v1 v2 D) := by
  intro n
  induction n with
  | zero => intros; exact tv_none
  | succ n ih =>
    intro v1 v2 D
    show td_sim _ _ _ _ _ _ _ _ _ (F_X12_allOfAll_4 (n + 1) v1 v2 D)
    unfold F_X12_allOfAll_4
    refine ts_iload_n (i := 2) rfl rfl dX12_allOfAll_4 ?_
    refine ts_aload_n (i := 0) rfl rfl dX12_allOfAll_5 ?_
    refine td_getI tl_X12_146 rfl ga_m_1 rfl dX12_allOfAll_6 ?_
    refine td_icmp_ge (tgt := 26) rfl dX12_allOfAll_9 ?_ ?_
    · refine ts_iload_n (i := 1) rfl rfl dX12_allOfAll_26 ?_
      exact td_iret rfl dX12_allOfAll_27
    · refine ts_iload_n (i := 1) rfl rfl dX12_allOfAll_12 ?_
      refine ts_aload_n (i := 0) rfl rfl dX12_allOfAll_13 ?_
      refine ts_iload_n (i := 2) rfl rfl dX12_allOfAll_14 ?_
      refine tq_callV (y2 := mX12_allIn) [tv_I v2] [tv_I v1] 1 (st' := fun r1 => [tv_I r1, tv_I v1]) tw_X12_allIn tx_X12_allIn tw_c12 ga_m_1 tl_X12_277 rfl rfl rfl rfl (fun _ => rfl) dX12_allOfAll_15 (S_X12_allIn l hE _ v2 D) (fun r1 D2 => ?_)
      refine ts_iadd dX12_allOfAll_18 ?_
      refine tq_istore_n [tv_R 1, tv_I (tv_w (v1 + r1)), tv_I v2] rfl (Nat.le_of_ble_eq_true rfl) rfl rfl dX12_allOfAll_19 ?_
      refine tq_iinc [tv_R 1, tv_I (tv_w (v1 + r1)), tv_I (tv_w (v2 + 1))] rfl rfl rfl dX12_allOfAll_20 ?_
      refine ts_goto (tgt := 4) rfl dX12_allOfAll_23 ?_
      exact ih (tv_w (v1 + r1)) (tv_w (v2 + 1)) D2
def F_X12_allOfAll (D : td_D) : Option (Int × td_D) :=
  F_X12_allOfAll_4 tf_N 0 0 D
set_option maxHeartbeats 4000000 in
set_option maxRecDepth 20000 in
theorem S_X12_allOfAll (l : Launch) {E : tv_E} (hE : tv_hE E) (d : Nat) (D : td_D) : td_msim l E (d + 1) mX12_allOfAll g_m [tv_R 1] D (F_X12_allOfAll D) := by
  refine td_meetL (ls := [tv_R 1, tv_U, tv_U]) rfl (Nat.le_of_ble_eq_true rfl) rfl ?_
  unfold F_X12_allOfAll
  refine ts_iconst rfl dX12_allOfAll_0 ?_
  refine tq_istore_n [tv_R 1, tv_I 0, tv_U] rfl (Nat.le_of_ble_eq_true rfl) rfl rfl dX12_allOfAll_1 ?_
  refine ts_iconst rfl dX12_allOfAll_2 ?_
  refine tq_istore_n [tv_R 1, tv_I 0, tv_I 0] rfl (Nat.le_of_ble_eq_true rfl) rfl rfl dX12_allOfAll_3 ?_
  exact S_X12_allOfAll_4 hE d tf_N 0 0 D
def F_X12_swarm (a1 : Int) (D : td_D) : Option (Int × td_D) :=
  td_b (F_X12_in a1 0 1 D) fun r1 D2 =>
  if r1 = 0 then
    some ((-1), D2)
  else
    td_b (F_X12_layNow D2) fun _ D4 =>
    td_b (F_X12_allOfAll D4) fun r5 D6 =>
    if a1 = 0 then
      some (r5, D6)
    else
      if r5 = 0 then
        some ((-2), D6)
      else
        td_b (F_X12_stingsTo r5 D6) fun r7 D8 =>
        some (r7, D8)
set_option maxHeartbeats 4000000 in
set_option maxRecDepth 20000 in
theorem S_X12_swarm (l : Launch) {E : tv_E} (hE : tv_hE E) (d : Nat) (a1 : Int) (D : td_D) : td_msim l E (d + 2) mX12_swarm g_m [tv_R 1, tv_I a1] D (F_X12_swarm a1 D) := by
  refine td_meetL (ls := [tv_R 1, tv_I a1, tv_U]) rfl (Nat.le_of_ble_eq_true rfl) rfl ?_
  unfold F_X12_swarm
  refine ts_iload_n (i := 1) rfl rfl dX12_swarm_0 ?_
  refine ts_iconst rfl dX12_swarm_1 ?_
  refine ts_iconst rfl dX12_swarm_2 ?_
  refine tq_callS (y2 := mX12_in) [tv_I a1, tv_I 0, tv_I 1] [] (st' := fun r1 => [tv_I r1]) tw_X12_in tx_X12_in tl_X12_142 rfl rfl rfl rfl (fun _ => rfl) dX12_swarm_3 (S_X12_in l hE _ a1 0 1 D) (fun r1 D2 => ?_)
  refine td_if_ne (tgt := 11) rfl dX12_swarm_6 ?_ ?_
  · refine ts_iconst rfl dX12_swarm_9 ?_
    exact td_iret rfl dX12_swarm_10
  · refine ts_aload_n (i := 0) rfl rfl dX12_swarm_11 ?_
    refine tq_callV (y2 := mX12_layNow) [] [] 1 (st' := fun _ => []) tw_X12_layNow tx_X12_layNow tw_c12 ga_m_1 tl_X12_289 rfl rfl rfl rfl (fun _ => rfl) dX12_swarm_12 (S_X12_layNow l hE _ D2) (fun r3 D4 => ?_)
    refine ts_aload_n (i := 0) rfl rfl dX12_swarm_15 ?_
    refine tq_callV (y2 := mX12_allOfAll) [] [] 1 (st' := fun r5 => [tv_I r5]) tw_X12_allOfAll tx_X12_allOfAll tw_c12 ga_m_1 tl_X12_376 rfl rfl rfl rfl (fun _ => rfl) dX12_swarm_16 (S_X12_allOfAll l hE _ D4) (fun r5 D6 => ?_)
    refine tq_istore_n [tv_R 1, tv_I a1, tv_I r5] rfl (Nat.le_of_ble_eq_true rfl) rfl rfl dX12_swarm_19 ?_
    refine ts_iload_n (i := 1) rfl rfl dX12_swarm_20 ?_
    refine td_if_ne (tgt := 28) rfl dX12_swarm_21 ?_ ?_
    · refine ts_iload_n (i := 2) rfl rfl dX12_swarm_24 ?_
      refine ts_goto (tgt := 42) rfl dX12_swarm_25 ?_
      exact td_iret rfl dX12_swarm_42
    · refine ts_iload_n (i := 2) rfl rfl dX12_swarm_28 ?_
      refine td_if_ne (tgt := 37) rfl dX12_swarm_29 ?_ ?_
      · refine ts_bipush rfl dX12_swarm_32 ?_
        refine ts_goto (tgt := 42) rfl dX12_swarm_34 ?_
        exact td_iret rfl dX12_swarm_42
      · refine ts_aload_n (i := 0) rfl rfl dX12_swarm_37 ?_
        refine ts_iload_n (i := 2) rfl rfl dX12_swarm_38 ?_
        refine tq_callV (y2 := mX12_stingsTo) [tv_I r5] [] 1 (st' := fun r7 => [tv_I r7]) tw_X12_stingsTo tx_X12_stingsTo tw_c12 ga_m_1 tl_X12_295 rfl rfl rfl rfl (fun _ => rfl) dX12_swarm_39 (S_X12_stingsTo l hE _ r5 D6) (fun r7 D8 => ?_)
        exact td_iret rfl dX12_swarm_42
def F_X12_drawn_151 (k53 : Int → Int → Int → Int → Int → Int → td_D → Option (Int × td_D)) (k69 : Int → Int → Int → Int → Int → Int → Int → td_D → Option (Int × td_D)) : Nat → Int → Int → Int → Int → Int → Int → Int → Int → td_D → Option (Int × td_D)
  | 0, _, _, _, _, _, _, _, _, _ => none
  | n + 1, v2, v3, v4, v5, v6, v7, v8, v10, D =>
    if D 1 3 ≤ v10 then
      k69 v2 v3 v4 v5 v6 v7 (tv_w (v8 + 1)) D
    else
      td_b (F_X12_goDay v10 v8 D) fun r1 D2 =>
      F_X12_drawn_151 k53 k69 n v2 v3 v4 v5 v6 v7 v8 (tv_w (v10 + 1)) D2
set_option maxHeartbeats 4000000 in
set_option maxRecDepth 20000 in
theorem S_X12_drawn_151 {l : Launch} {E : tv_E} (hE : tv_hE E) (d : Nat) (k53 : Int → Int → Int → Int → Int → Int → td_D → Option (Int × td_D)) (k69 : Int → Int → Int → Int → Int → Int → Int → td_D → Option (Int × td_D)) (hk53 : ∀ (v2 : Int) (v3 : Int) (v4 : Int) (v5 : Int) (v6 : Int) (v7 : Int) (D : td_D), td_sim l E (d + 5) mX12_drawn g_m 53 [tv_R 1, tv_U, tv_I v2, tv_I v3, tv_I v4, tv_I v5, tv_I v6, tv_I v7, tv_U, tv_U, tv_U] [] D (k53 v2 v3 v4 v5 v6 v7 D)) (hk69 : ∀ (v2 : Int) (v3 : Int) (v4 : Int) (v5 : Int) (v6 : Int) (v7 : Int) (v8 : Int) (D : td_D), td_sim l E (d + 5) mX12_drawn g_m 69 [tv_R 1, tv_U, tv_I v2, tv_I v3, tv_I v4, tv_I v5, tv_I v6, tv_I v7, tv_I v8, tv_U, tv_U] [] D (k69 v2 v3 v4 v5 v6 v7 v8 D)) : ∀ (n : Nat) (v2 : Int) (v3 : Int) (v4 : Int) (v5 : Int) (v6 : Int) (v7 : Int) (v8 : Int) (v10 : Int) (D : td_D), td_sim l E (d + 5) mX12_drawn g_m 151 [tv_R 1, tv_U, tv_I v2, tv_I v3, tv_I v4, tv_I v5, tv_I v6, tv_I v7, tv_I v8, tv_U, tv_I v10] [] D (F_X12_drawn_151 k53 k69 n v2 v3 v4 v5 v6 v7 v8 v10 D) := by
  intro n
  induction n with
  | zero => intros; exact tv_none
  | succ n ih =>
    intro v2 v3 v4 v5 v6 v7 v8 v10 D
    show td_sim _ _ _ _ _ _ _ _ _ (F_X12_drawn_151 k53 k69 (n + 1) v2 v3 v4 v5 v6 v7 v8 v10 D)
    unfold F_X12_drawn_151
    refine ts_iload rfl dX12_drawn_151 ?_
    refine ts_aload_n (i := 0) rfl rfl dX12_drawn_153 ?_
    refine td_getI tl_X12_146 rfl ga_m_1 rfl dX12_drawn_154 ?_
    refine td_icmp_ge (tgt := 175) rfl dX12_drawn_157 ?_ ?_
    · refine tq_iinc [tv_R 1, tv_U, tv_I v2, tv_I v3, tv_I v4, tv_I v5, tv_I v6, tv_I v7, tv_I (tv_w (v8 + 1)), tv_U, tv_I v10] rfl rfl rfl dX12_drawn_175 ?_
      refine ts_goto (tgt := 69) rfl dX12_drawn_178 ?_
      refine tv_weak (ls' := [tv_R 1, tv_U, tv_I v2, tv_I v3, tv_I v4, tv_I v5, tv_I v6, tv_I v7, tv_I (tv_w (v8 + 1)), tv_U, tv_U]) ⟨Or.inr rfl, Or.inl rfl, Or.inr rfl, Or.inr rfl, Or.inr rfl, Or.inr rfl, Or.inr rfl, Or.inr rfl, Or.inr rfl, Or.inl rfl, Or.inl rfl, trivial⟩ ?_
      exact hk69 v2 v3 v4 v5 v6 v7 (tv_w (v8 + 1)) D
    · refine ts_aload_n (i := 0) rfl rfl dX12_drawn_160 ?_
      refine ts_iload rfl dX12_drawn_161 ?_
      refine ts_iload rfl dX12_drawn_163 ?_
      refine tq_callV (y2 := mX12_goDay) [tv_I v10, tv_I v8] [] 1 (st' := fun r1 => [tv_I r1]) tw_X12_goDay tx_X12_goDay tw_c12 ga_m_1 tl_X12_292 rfl rfl rfl rfl (fun _ => rfl) dX12_drawn_165 (S_X12_goDay l hE _ v10 v8 D) (fun r1 D2 => ?_)
      refine ts_popI dX12_drawn_168 ?_
      refine tq_iinc [tv_R 1, tv_U, tv_I v2, tv_I v3, tv_I v4, tv_I v5, tv_I v6, tv_I v7, tv_I v8, tv_U, tv_I (tv_w (v10 + 1))] rfl rfl rfl dX12_drawn_169 ?_
      refine ts_goto (tgt := 151) rfl dX12_drawn_172 ?_
      exact ih v2 v3 v4 v5 v6 v7 v8 (tv_w (v10 + 1)) D2
def F_X12_drawn_128 (k53 : Int → Int → Int → Int → Int → Int → td_D → Option (Int × td_D)) (k69 : Int → Int → Int → Int → Int → Int → Int → td_D → Option (Int × td_D)) : Nat → Int → Int → Int → Int → Int → Int → Int → Int → td_D → Option (Int × td_D)
  | 0, _, _, _, _, _, _, _, _, _ => none
  | n + 1, v2, v3, v4, v5, v6, v7, v8, v10, D =>
    if v10 = 0 then
      F_X12_drawn_151 k53 k69 tf_N v2 v3 v4 v5 v6 v7 v8 0 D
    else
      F_X12_drawn_128 k53 k69 n v2 v3 v4 (tv_w (v5 + 1)) v6 v7 v8 (tv_and v10 (tv_w (v10 - 1))) D
set_option maxHeartbeats 4000000 in
set_option maxRecDepth 20000 in
theorem S_X12_drawn_128 {l : Launch} {E : tv_E} (hE : tv_hE E) (d : Nat) (k53 : Int → Int → Int → Int → Int → Int → td_D → Option (Int × td_D)) (k69 : Int → Int → Int → Int → Int → Int → Int → td_D → Option (Int × td_D)) (hk53 : ∀ (v2 : Int) (v3 : Int) (v4 : Int) (v5 : Int) (v6 : Int) (v7 : Int) (D : td_D), td_sim l E (d + 5) mX12_drawn g_m 53 [tv_R 1, tv_U, tv_I v2, tv_I v3, tv_I v4, tv_I v5, tv_I v6, tv_I v7, tv_U, tv_U, tv_U] [] D (k53 v2 v3 v4 v5 v6 v7 D)) (hk69 : ∀ (v2 : Int) (v3 : Int) (v4 : Int) (v5 : Int) (v6 : Int) (v7 : Int) (v8 : Int) (D : td_D), td_sim l E (d + 5) mX12_drawn g_m 69 [tv_R 1, tv_U, tv_I v2, tv_I v3, tv_I v4, tv_I v5, tv_I v6, tv_I v7, tv_I v8, tv_U, tv_U] [] D (k69 v2 v3 v4 v5 v6 v7 v8 D)) : ∀ (n : Nat) (v2 : Int) (v3 : Int) (v4 : Int) (v5 : Int) (v6 : Int) (v7 : Int) (v8 : Int) (v10 : Int) (D : td_D), td_sim l E (d + 5) mX12_drawn g_m 128 [tv_R 1, tv_U, tv_I v2, tv_I v3, tv_I v4, tv_I v5, tv_I v6, tv_I v7, tv_I v8, tv_U, tv_I v10] [] D (F_X12_drawn_128 k53 k69 n v2 v3 v4 v5 v6 v7 v8 v10 D) := by
  intro n
  induction n with
  | zero => intros; exact tv_none
  | succ n ih =>
    intro v2 v3 v4 v5 v6 v7 v8 v10 D
    show td_sim _ _ _ _ _ _ _ _ _ (F_X12_drawn_128 k53 k69 (n + 1) v2 v3 v4 v5 v6 v7 v8 v10 D)
    unfold F_X12_drawn_128
    refine ts_iload rfl dX12_drawn_128 ?_
    refine td_if_eq (tgt := 148) rfl dX12_drawn_130 ?_ ?_
    · refine ts_iconst rfl dX12_drawn_148 ?_
      refine tq_istore [tv_R 1, tv_U, tv_I v2, tv_I v3, tv_I v4, tv_I v5, tv_I v6, tv_I v7, tv_I v8, tv_U, tv_I 0] (Nat.le_of_ble_eq_true rfl) rfl rfl dX12_drawn_149 ?_
      exact S_X12_drawn_151 hE d k53 k69 (hk53) (hk69) tf_N v2 v3 v4 v5 v6 v7 v8 0 D
    · refine tq_iinc [tv_R 1, tv_U, tv_I v2, tv_I v3, tv_I v4, tv_I (tv_w (v5 + 1)), tv_I v6, tv_I v7, tv_I v8, tv_U, tv_I v10] rfl rfl rfl dX12_drawn_133 ?_
      refine ts_iload rfl dX12_drawn_136 ?_
      refine ts_iload rfl dX12_drawn_138 ?_
      refine ts_iconst rfl dX12_drawn_140 ?_
      refine ts_isub dX12_drawn_141 ?_
      refine ts_iand dX12_drawn_142 ?_
      refine tq_istore [tv_R 1, tv_U, tv_I v2, tv_I v3, tv_I v4, tv_I (tv_w (v5 + 1)), tv_I v6, tv_I v7, tv_I v8, tv_U, tv_I (tv_and v10 (tv_w (v10 - 1)))] (Nat.le_of_ble_eq_true rfl) rfl rfl dX12_drawn_143 ?_
      refine ts_goto (tgt := 128) rfl dX12_drawn_145 ?_
      exact ih v2 v3 v4 (tv_w (v5 + 1)) v6 v7 v8 (tv_and v10 (tv_w (v10 - 1))) D
def F_X12_drawn_69 (k53 : Int → Int → Int → Int → Int → Int → td_D → Option (Int × td_D)) : Nat → Int → Int → Int → Int → Int → Int → Int → td_D → Option (Int × td_D)
  | 0, _, _, _, _, _, _, _, _ => none
  | n + 1, v2, v3, v4, v5, v6, v7, v8, D =>
    if tv_rem v2 100 ≤ v8 then
      k53 v2 v3 v4 v5 v6 (tv_w (v7 + 1)) D
    else
      td_b (F_X12_stungBits (tv_w ((tv_w (10 * (tv_rem (tv_ushr (tv_w ((tv_w (v4 * 1103515245)) + 12345)) 12) 10))) + (tv_rem (tv_ushr (tv_w ((tv_w (v4 * 1103515245)) + 12345)) 6) 10))) D) fun r3 D4 =>
      if r3 = 0 then
        F_X12_drawn_128 k53 (fun v2 v3 v4 v5 v6 v7 v8 D => F_X12_drawn_69 k53 n v2 v3 v4 v5 v6 v7 v8 D) tf_N v2 v3 (tv_w ((tv_w (v4 * 1103515245)) + 12345)) v5 v6 v7 v8 r3 D4
      else
        F_X12_drawn_128 k53 (fun v2 v3 v4 v5 v6 v7 v8 D => F_X12_drawn_69 k53 n v2 v3 v4 v5 v6 v7 v8 D) tf_N v2 v3 (tv_w ((tv_w (v4 * 1103515245)) + 12345)) v5 (tv_w (v6 + 1)) v7 v8 r3 D4
set_option maxHeartbeats 4000000 in
set_option maxRecDepth 20000 in
theorem S_X12_drawn_69 {l : Launch} {E : tv_E} (hE : tv_hE E) (d : Nat) (k53 : Int → Int → Int → Int → Int → Int → td_D → Option (Int × td_D)) (hk53 : ∀ (v2 : Int) (v3 : Int) (v4 : Int) (v5 : Int) (v6 : Int) (v7 : Int) (D : td_D), td_sim l E (d + 5) mX12_drawn g_m 53 [tv_R 1, tv_U, tv_I v2, tv_I v3, tv_I v4, tv_I v5, tv_I v6, tv_I v7, tv_U, tv_U, tv_U] [] D (k53 v2 v3 v4 v5 v6 v7 D)) : ∀ (n : Nat) (v2 : Int) (v3 : Int) (v4 : Int) (v5 : Int) (v6 : Int) (v7 : Int) (v8 : Int) (D : td_D), td_sim l E (d + 5) mX12_drawn g_m 69 [tv_R 1, tv_U, tv_I v2, tv_I v3, tv_I v4, tv_I v5, tv_I v6, tv_I v7, tv_I v8, tv_U, tv_U] [] D (F_X12_drawn_69 k53 n v2 v3 v4 v5 v6 v7 v8 D) := by
  intro n
  induction n with
  | zero => intros; exact tv_none
  | succ n ih =>
    intro v2 v3 v4 v5 v6 v7 v8 D
    show td_sim _ _ _ _ _ _ _ _ _ (F_X12_drawn_69 k53 (n + 1) v2 v3 v4 v5 v6 v7 v8 D)
    unfold F_X12_drawn_69
    refine ts_iload rfl dX12_drawn_69 ?_
    refine ts_iload_n (i := 2) rfl rfl dX12_drawn_71 ?_
    refine ts_bipush rfl dX12_drawn_72 ?_
    refine td_iremK (by decide) dX12_drawn_74 ?_
    refine td_icmp_ge (tgt := 181) rfl dX12_drawn_75 ?_ ?_
    · refine tq_iinc [tv_R 1, tv_U, tv_I v2, tv_I v3, tv_I v4, tv_I v5, tv_I v6, tv_I (tv_w (v7 + 1)), tv_I v8, tv_U, tv_U] rfl rfl rfl dX12_drawn_181 ?_
      refine ts_goto (tgt := 53) rfl dX12_drawn_184 ?_
      refine tv_weak (ls' := [tv_R 1, tv_U, tv_I v2, tv_I v3, tv_I v4, tv_I v5, tv_I v6, tv_I (tv_w (v7 + 1)), tv_U, tv_U, tv_U]) ⟨Or.inr rfl, Or.inl rfl, Or.inr rfl, Or.inr rfl, Or.inr rfl, Or.inr rfl, Or.inr rfl, Or.inr rfl, Or.inl rfl, Or.inl rfl, Or.inl rfl, trivial⟩ ?_
      exact hk53 v2 v3 v4 v5 v6 (tv_w (v7 + 1)) D
    · refine ts_iload rfl dX12_drawn_78 ?_
      refine ts_ldcw rfl tl_X12_379 dX12_drawn_80 ?_
      refine ts_imul dX12_drawn_83 ?_
      refine ts_sipush rfl dX12_drawn_84 ?_
      refine ts_iadd dX12_drawn_87 ?_
      refine tq_istore [tv_R 1, tv_U, tv_I v2, tv_I v3, tv_I (tv_w ((tv_w (v4 * 1103515245)) + 12345)), tv_I v5, tv_I v6, tv_I v7, tv_I v8, tv_U, tv_U] (Nat.le_of_ble_eq_true rfl) rfl rfl dX12_drawn_88 ?_
      refine ts_aload_n (i := 0) rfl rfl dX12_drawn_90 ?_
      refine ts_bipush rfl dX12_drawn_91 ?_
      refine ts_iload rfl dX12_drawn_93 ?_
      refine ts_bipush rfl dX12_drawn_95 ?_
      refine ts_iushr dX12_drawn_97 ?_
      refine ts_bipush rfl dX12_drawn_98 ?_
      refine td_iremK (by decide) dX12_drawn_100 ?_
      refine ts_imul dX12_drawn_101 ?_
      refine ts_iload rfl dX12_drawn_102 ?_
      refine ts_bipush rfl dX12_drawn_104 ?_
      refine ts_iushr dX12_drawn_106 ?_
      refine ts_bipush rfl dX12_drawn_107 ?_
      refine td_iremK (by decide) dX12_drawn_109 ?_
      refine ts_iadd dX12_drawn_110 ?_
      refine tq_callV (y2 := mX12_stungBits) [tv_I (tv_w ((tv_w (10 * (tv_rem (tv_ushr (tv_w ((tv_w (v4 * 1103515245)) + 12345)) 12) 10))) + (tv_rem (tv_ushr (tv_w ((tv_w (v4 * 1103515245)) + 12345)) 6) 10)))] [] 1 (st' := fun r3 => [tv_I r3]) tw_X12_stungBits tx_X12_stungBits tw_c12 ga_m_1 tl_X12_344 rfl rfl rfl rfl (fun _ => rfl) dX12_drawn_111 (S_X12_stungBits l hE _ (tv_w ((tv_w (10 * (tv_rem (tv_ushr (tv_w ((tv_w (v4 * 1103515245)) + 12345)) 12) 10))) + (tv_rem (tv_ushr (tv_w ((tv_w (v4 * 1103515245)) + 12345)) 6) 10))) D) (fun r3 D4 => ?_)
      refine tq_istore [tv_R 1, tv_U, tv_I v2, tv_I v3, tv_I (tv_w ((tv_w (v4 * 1103515245)) + 12345)), tv_I v5, tv_I v6, tv_I v7, tv_I v8, tv_I r3, tv_U] (Nat.le_of_ble_eq_true rfl) rfl rfl dX12_drawn_114 ?_
      refine ts_iload rfl dX12_drawn_116 ?_
      refine td_if_eq (tgt := 124) rfl dX12_drawn_118 ?_ ?_
      · refine ts_iload rfl dX12_drawn_124 ?_
        refine tq_istore [tv_R 1, tv_U, tv_I v2, tv_I v3, tv_I (tv_w ((tv_w (v4 * 1103515245)) + 12345)), tv_I v5, tv_I v6, tv_I v7, tv_I v8, tv_I r3, tv_I r3] (Nat.le_of_ble_eq_true rfl) rfl rfl dX12_drawn_126 ?_
        refine tv_weak (ls' := [tv_R 1, tv_U, tv_I v2, tv_I v3, tv_I (tv_w ((tv_w (v4 * 1103515245)) + 12345)), tv_I v5, tv_I v6, tv_I v7, tv_I v8, tv_U, tv_I r3]) ⟨Or.inr rfl, Or.inl rfl, Or.inr rfl, Or.inr rfl, Or.inr rfl, Or.inr rfl, Or.inr rfl, Or.inr rfl, Or.inr rfl, Or.inl rfl, Or.inr rfl, trivial⟩ ?_
        exact S_X12_drawn_128 hE d k53 (fun v2 v3 v4 v5 v6 v7 v8 D => F_X12_drawn_69 k53 n v2 v3 v4 v5 v6 v7 v8 D) (hk53) (fun v2 v3 v4 v5 v6 v7 v8 D => ih v2 v3 v4 v5 v6 v7 v8 D) tf_N v2 v3 (tv_w ((tv_w (v4 * 1103515245)) + 12345)) v5 v6 v7 v8 r3 D4
      · refine tq_iinc [tv_R 1, tv_U, tv_I v2, tv_I v3, tv_I (tv_w ((tv_w (v4 * 1103515245)) + 12345)), tv_I v5, tv_I (tv_w (v6 + 1)), tv_I v7, tv_I v8, tv_I r3, tv_U] rfl rfl rfl dX12_drawn_121 ?_
        refine ts_iload rfl dX12_drawn_124 ?_
        refine tq_istore [tv_R 1, tv_U, tv_I v2, tv_I v3, tv_I (tv_w ((tv_w (v4 * 1103515245)) + 12345)), tv_I v5, tv_I (tv_w (v6 + 1)), tv_I v7, tv_I v8, tv_I r3, tv_I r3] (Nat.le_of_ble_eq_true rfl) rfl rfl dX12_drawn_126 ?_
        refine tv_weak (ls' := [tv_R 1, tv_U, tv_I v2, tv_I v3, tv_I (tv_w ((tv_w (v4 * 1103515245)) + 12345)), tv_I v5, tv_I (tv_w (v6 + 1)), tv_I v7, tv_I v8, tv_U, tv_I r3]) ⟨Or.inr rfl, Or.inl rfl, Or.inr rfl, Or.inr rfl, Or.inr rfl, Or.inr rfl, Or.inr rfl, Or.inr rfl, Or.inr rfl, Or.inl rfl, Or.inr rfl, trivial⟩ ?_
        exact S_X12_drawn_128 hE d k53 (fun v2 v3 v4 v5 v6 v7 v8 D => F_X12_drawn_69 k53 n v2 v3 v4 v5 v6 v7 v8 D) (hk53) (fun v2 v3 v4 v5 v6 v7 v8 D => ih v2 v3 v4 v5 v6 v7 v8 D) tf_N v2 v3 (tv_w ((tv_w (v4 * 1103515245)) + 12345)) v5 (tv_w (v6 + 1)) v7 v8 r3 D4
def F_X12_drawn_53 : Nat → Int → Int → Int → Int → Int → Int → td_D → Option (Int × td_D)
  | 0, _, _, _, _, _, _, _ => none
  | n + 1, v2, v3, v4, v5, v6, v7, D =>
    if tv_div v2 100 ≤ v7 then
      if v3 = 0 then
        some (v5, D)
      else
        some (v6, D)
    else
      td_b (F_X12_layNow D) fun _ D6 =>
      F_X12_drawn_69 (fun v2 v3 v4 v5 v6 v7 D => F_X12_drawn_53 n v2 v3 v4 v5 v6 v7 D) tf_N v2 v3 v4 v5 v6 v7 0 D6
set_option maxHeartbeats 4000000 in
set_option maxRecDepth 20000 in
theorem S_X12_drawn_53 {l : Launch} {E : tv_E} (hE : tv_hE E) (d : Nat) : ∀ (n : Nat) (v2 : Int) (v3 : Int) (v4 : Int) (v5 : Int) (v6 : Int) (v7 : Int) (D : td_D), td_sim l E (d + 5) mX12_drawn g_m 53 [tv_R 1, tv_U, tv_I v2, tv_I v3, tv_I v4, tv_I v5, tv_I v6, tv_I v7, tv_U, tv_U, tv_U] [] D (F_X12_drawn_53 n v2 v3 v4 v5 v6 v7 D) := by
  intro n
  induction n with
  | zero => intros; exact tv_none
  | succ n ih =>
    intro v2 v3 v4 v5 v6 v7 D
    show td_sim _ _ _ _ _ _ _ _ _ (F_X12_drawn_53 (n + 1) v2 v3 v4 v5 v6 v7 D)
    unfold F_X12_drawn_53
    refine ts_iload rfl dX12_drawn_53 ?_
    refine ts_iload_n (i := 2) rfl rfl dX12_drawn_55 ?_
    refine ts_bipush rfl dX12_drawn_56 ?_
    refine td_idivK (by decide) dX12_drawn_58 ?_
    refine td_icmp_ge (tgt := 187) rfl dX12_drawn_59 ?_ ?_
    · refine ts_iload_n (i := 3) rfl rfl dX12_drawn_187 ?_
      refine td_if_ne (tgt := 196) rfl dX12_drawn_188 ?_ ?_
      · refine ts_iload rfl dX12_drawn_191 ?_
        refine ts_goto (tgt := 198) rfl dX12_drawn_193 ?_
        exact td_iret rfl dX12_drawn_198
      · refine ts_iload rfl dX12_drawn_196 ?_
        exact td_iret rfl dX12_drawn_198
    · refine ts_aload_n (i := 0) rfl rfl dX12_drawn_62 ?_
      refine tq_callV (y2 := mX12_layNow) [] [] 1 (st' := fun _ => []) tw_X12_layNow tx_X12_layNow tw_c12 ga_m_1 tl_X12_289 rfl rfl rfl rfl (fun _ => rfl) dX12_drawn_63 (S_X12_layNow l hE _ D) (fun r5 D6 => ?_)
      refine ts_iconst rfl dX12_drawn_66 ?_
      refine tq_istore [tv_R 1, tv_U, tv_I v2, tv_I v3, tv_I v4, tv_I v5, tv_I v6, tv_I v7, tv_I 0, tv_U, tv_U] (Nat.le_of_ble_eq_true rfl) rfl rfl dX12_drawn_67 ?_
      exact S_X12_drawn_69 hE d (fun v2 v3 v4 v5 v6 v7 D => F_X12_drawn_53 n v2 v3 v4 v5 v6 v7 D) (fun v2 v3 v4 v5 v6 v7 D => ih v2 v3 v4 v5 v6 v7 D) tf_N v2 v3 v4 v5 v6 v7 0 D6
def F_X12_drawn (a1 : Int) (a2 : Int) (a3 : Int) (D : td_D) : Option (Int × td_D) :=
  if a2 < 0 then
    some ((-1), D)
  else
    td_b (F_X12_in (tv_div a2 100) 1 30 D) fun r7 D8 =>
    if r7 = 0 then
      some ((-1), D8)
    else
      td_b (F_X12_in (tv_rem a2 100) 1 30 D8) fun r9 D10 =>
      if r9 = 0 then
        some ((-1), D10)
      else
        td_b (F_X12_in a3 0 1 D10) fun r11 D12 =>
        if r11 = 0 then
          some ((-1), D12)
        else
          F_X12_drawn_53 tf_N a2 a3 a1 0 0 0 D12
set_option maxHeartbeats 4000000 in
set_option maxRecDepth 20000 in
theorem S_X12_drawn (l : Launch) {E : tv_E} (hE : tv_hE E) (d : Nat) (a1 : Int) (a2 : Int) (a3 : Int) (D : td_D) : td_msim l E (d + 5) mX12_drawn g_m [tv_R 1, tv_I a1, tv_I a2, tv_I a3] D (F_X12_drawn a1 a2 a3 D) := by
  refine td_meetL (ls := [tv_R 1, tv_I a1, tv_I a2, tv_I a3, tv_U, tv_U, tv_U, tv_U, tv_U, tv_U, tv_U]) rfl (Nat.le_of_ble_eq_true rfl) rfl ?_
  unfold F_X12_drawn
  refine ts_iload_n (i := 2) rfl rfl dX12_drawn_0 ?_
  refine td_if_lt (tgt := 39) rfl dX12_drawn_1 ?_ ?_
  · refine ts_iconst rfl dX12_drawn_39 ?_
    exact td_iret rfl dX12_drawn_40
  · refine ts_iload_n (i := 2) rfl rfl dX12_drawn_4 ?_
    refine ts_bipush rfl dX12_drawn_5 ?_
    refine td_idivK (by decide) dX12_drawn_7 ?_
    refine ts_iconst rfl dX12_drawn_8 ?_
    refine ts_bipush rfl dX12_drawn_9 ?_
    refine tq_callS (y2 := mX12_in) [tv_I (tv_div a2 100), tv_I 1, tv_I 30] [] (st' := fun r7 => [tv_I r7]) tw_X12_in tx_X12_in tl_X12_142 rfl rfl rfl rfl (fun _ => rfl) dX12_drawn_11 (S_X12_in l hE _ (tv_div a2 100) 1 30 D) (fun r7 D8 => ?_)
    refine td_if_eq (tgt := 39) rfl dX12_drawn_14 ?_ ?_
    · refine ts_iconst rfl dX12_drawn_39 ?_
      exact td_iret rfl dX12_drawn_40
    · refine ts_iload_n (i := 2) rfl rfl dX12_drawn_17 ?_
      refine ts_bipush rfl dX12_drawn_18 ?_
      refine td_iremK (by decide) dX12_drawn_20 ?_
      refine ts_iconst rfl dX12_drawn_21 ?_
      refine ts_bipush rfl dX12_drawn_22 ?_
      refine tq_callS (y2 := mX12_in) [tv_I (tv_rem a2 100), tv_I 1, tv_I 30] [] (st' := fun r9 => [tv_I r9]) tw_X12_in tx_X12_in tl_X12_142 rfl rfl rfl rfl (fun _ => rfl) dX12_drawn_24 (S_X12_in l hE _ (tv_rem a2 100) 1 30 D8) (fun r9 D10 => ?_)
      refine td_if_eq (tgt := 39) rfl dX12_drawn_27 ?_ ?_
      · refine ts_iconst rfl dX12_drawn_39 ?_
        exact td_iret rfl dX12_drawn_40
      · refine ts_iload_n (i := 3) rfl rfl dX12_drawn_30 ?_
        refine ts_iconst rfl dX12_drawn_31 ?_
        refine ts_iconst rfl dX12_drawn_32 ?_
        refine tq_callS (y2 := mX12_in) [tv_I a3, tv_I 0, tv_I 1] [] (st' := fun r11 => [tv_I r11]) tw_X12_in tx_X12_in tl_X12_142 rfl rfl rfl rfl (fun _ => rfl) dX12_drawn_33 (S_X12_in l hE _ a3 0 1 D10) (fun r11 D12 => ?_)
        refine td_if_ne (tgt := 41) rfl dX12_drawn_36 ?_ ?_
        · refine ts_iconst rfl dX12_drawn_39 ?_
          exact td_iret rfl dX12_drawn_40
        · refine ts_iload_n (i := 1) rfl rfl dX12_drawn_41 ?_
          refine tq_istore [tv_R 1, tv_I a1, tv_I a2, tv_I a3, tv_I a1, tv_U, tv_U, tv_U, tv_U, tv_U, tv_U] (Nat.le_of_ble_eq_true rfl) rfl rfl dX12_drawn_42 ?_
          refine ts_iconst rfl dX12_drawn_44 ?_
          refine tq_istore [tv_R 1, tv_I a1, tv_I a2, tv_I a3, tv_I a1, tv_I 0, tv_U, tv_U, tv_U, tv_U, tv_U] (Nat.le_of_ble_eq_true rfl) rfl rfl dX12_drawn_45 ?_
          refine ts_iconst rfl dX12_drawn_47 ?_
          refine tq_istore [tv_R 1, tv_I a1, tv_I a2, tv_I a3, tv_I a1, tv_I 0, tv_I 0, tv_U, tv_U, tv_U, tv_U] (Nat.le_of_ble_eq_true rfl) rfl rfl dX12_drawn_48 ?_
          refine ts_iconst rfl dX12_drawn_50 ?_
          refine tq_istore [tv_R 1, tv_I a1, tv_I a2, tv_I a3, tv_I a1, tv_I 0, tv_I 0, tv_I 0, tv_U, tv_U, tv_U] (Nat.le_of_ble_eq_true rfl) rfl rfl dX12_drawn_51 ?_
          refine tv_weak (ls' := [tv_R 1, tv_U, tv_I a2, tv_I a3, tv_I a1, tv_I 0, tv_I 0, tv_I 0, tv_U, tv_U, tv_U]) ⟨Or.inr rfl, Or.inl rfl, Or.inr rfl, Or.inr rfl, Or.inr rfl, Or.inr rfl, Or.inr rfl, Or.inr rfl, Or.inl rfl, Or.inl rfl, Or.inl rfl, trivial⟩ ?_
          exact S_X12_drawn_53 hE d tf_N a2 a3 a1 0 0 0 D12
