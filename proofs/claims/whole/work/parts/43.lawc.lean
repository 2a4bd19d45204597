/-- both answer alike, and stay related -/
def lw_eq (R : td_D → td_D → Prop) (x y : Option (Int × td_D)) : Prop := ∃ (r : Int) (D1 D2 : td_D), x = some (r, D1) ∧ y = some (r, D2) ∧ R D1 D2
def lw_ok (Dc Dm : td_D) : Prop := tv_okM (td_m g_c Dc) ∧ tv_okM (td_m g_m Dm)
/-- person -/
def ls_0 (R : td_D → td_D → Prop) : Prop := ∀ (a1 : Int) (Dc Dm : td_D), tv_in a1 → lw_ok Dc Dm → R Dc Dm → lw_eq R (F_X11_person a1 Dc) (F_X12_person a1 Dm)
/-- hive -/
def ls_1 (R : td_D → td_D → Prop) : Prop := ∀ (a1 : Int) (Dc Dm : td_D), tv_in a1 → lw_ok Dc Dm → R Dc Dm → lw_eq R (F_X11_hive a1 Dc) (F_X12_hive a1 Dm)
/-- deed -/
def ls_2 (R : td_D → td_D → Prop) : Prop := ∀ (a1 a2 : Int) (Dc Dm : td_D), tv_in a1 → tv_in a2 → lw_ok Dc Dm → R Dc Dm → lw_eq R (F_X11_deed a1 a2 Dc) (F_X12_deed a1 a2 Dm)
/-- deeds -/
def ls_3 (R : td_D → td_D → Prop) : Prop := ∀ (a1 a2 a3 : Int) (Dc Dm : td_D), tv_in a1 → tv_in a2 → tv_in a3 → lw_ok Dc Dm → R Dc Dm → lw_eq R (F_X11_deeds a1 a2 a3 Dc) (F_X12_deeds a1 a2 a3 Dm)
/-- mend -/
def ls_4 (R : td_D → td_D → Prop) : Prop := ∀ (a1 a2 a3 : Int) (Dc Dm : td_D), tv_in a1 → tv_in a2 → tv_in a3 → lw_ok Dc Dm → R Dc Dm → lw_eq R (F_X11_mend a1 a2 a3 Dc) (F_X12_mend a1 a2 a3 Dm)
/-- of -/
def ls_5 (R : td_D → td_D → Prop) : Prop := ∀ (a1 a2 : Int) (Dc Dm : td_D), tv_in a1 → tv_in a2 → lw_ok Dc Dm → R Dc Dm → lw_eq R (F_X11_of a1 a2 Dc) (F_X12_of a1 a2 Dm)
/-- feed -/
def ls_6 (R : td_D → td_D → Prop) : Prop := ∀ (a1 : Int) (Dc Dm : td_D), tv_in a1 → lw_ok Dc Dm → R Dc Dm → lw_eq R (F_X11_feed a1 Dc) (F_X12_feed a1 Dm)
/-- law -/
def ls_7 (R : td_D → td_D → Prop) : Prop := ∀ (Dc Dm : td_D), lw_ok Dc Dm → R Dc Dm → lw_eq R (F_X11_law Dc) (F_X12_law Dm)
/-- later -/
def ls_8 (R : td_D → td_D → Prop) : Prop := ∀ (a1 a2 : Int) (Dc Dm : td_D), tv_in a1 → tv_in a2 → lw_ok Dc Dm → R Dc Dm → lw_eq R (F_X11_later a1 a2 Dc) (F_X12_later a1 a2 Dm)
/-- still -/
def ls_9 (R : td_D → td_D → Prop) : Prop := ∀ (a1 : Int) (Dc Dm : td_D), tv_in a1 → lw_ok Dc Dm → R Dc Dm → lw_eq R (F_X11_still a1 Dc) (F_X12_still a1 Dm)
/-- can -/
def ls_10 (R : td_D → td_D → Prop) : Prop := ∀ (a1 a2 : Int) (Dc Dm : td_D), tv_in a1 → tv_in a2 → lw_ok Dc Dm → R Dc Dm → lw_eq R (F_X11_can a1 a2 Dc) (F_X12_can a1 a2 Dm)
/-- round -/
def ls_11 (R : td_D → td_D → Prop) : Prop := ∀ (a1 a2 a3 : Int) (Dc Dm : td_D), tv_in a1 → tv_in a2 → tv_in a3 → lw_ok Dc Dm → R Dc Dm → lw_eq R (F_X11_round a1 a2 a3 Dc) (F_X12_round a1 a2 a3 Dm)
/-- without -/
def ls_12 (R : td_D → td_D → Prop) : Prop := ∀ (a1 a2 : Int) (Dc Dm : td_D), tv_in a1 → tv_in a2 → lw_ok Dc Dm → R Dc Dm → lw_eq R (F_X11_without a1 a2 Dc) (F_X12_without a1 a2 Dm)
/-- who -/
def ls_13 (R : td_D → td_D → Prop) : Prop := ∀ (a1 : Int) (Dc Dm : td_D), tv_in a1 → lw_ok Dc Dm → R Dc Dm → lw_eq R (F_X11_who a1 Dc) (F_X12_who a1 Dm)
/-- stung -/
def ls_14 (R : td_D → td_D → Prop) : Prop := ∀ (a1 : Int) (Dc Dm : td_D), tv_in a1 → lw_ok Dc Dm → R Dc Dm → lw_eq R (F_X11_stung a1 Dc) (F_X12_stung a1 Dm)
/-- way -/
def ls_15 (R : td_D → td_D → Prop) : Prop := ∀ (a1 a2 : Int) (Dc Dm : td_D), tv_in a1 → tv_in a2 → lw_ok Dc Dm → R Dc Dm → lw_eq R (F_X11_way a1 a2 Dc) (F_X12_way a1 a2 Dm)
/-- least -/
def ls_16 (R : td_D → td_D → Prop) : Prop := ∀ (a1 a2 a3 : Int) (Dc Dm : td_D), tv_in a1 → tv_in a2 → tv_in a3 → lw_ok Dc Dm → R Dc Dm → lw_eq R (F_X11_least a1 a2 a3 Dc) (F_X12_least a1 a2 a3 Dm)
/-- set -/
def ls_17 (R : td_D → td_D → Prop) : Prop := ∀ (a1 a2 a3 : Int) (Dc Dm : td_D), tv_in a1 → tv_in a2 → tv_in a3 → lw_ok Dc Dm → R Dc Dm → lw_eq R (F_X11_set a1 a2 a3 Dc) (F_X12_set a1 a2 a3 Dm)
/-- tries -/
def ls_18 (R : td_D → td_D → Prop) : Prop := ∀ (a1 a2 a3 : Int) (Dc Dm : td_D), tv_in a1 → tv_in a2 → tv_in a3 → lw_ok Dc Dm → R Dc Dm → lw_eq R (F_X11_tries a1 a2 a3 Dc) (F_X12_tries a1 a2 a3 Dm)
/-- next -/
def ls_19 (R : td_D → td_D → Prop) : Prop := ∀ (a1 a2 : Int) (Dc Dm : td_D), tv_in a1 → tv_in a2 → lw_ok Dc Dm → R Dc Dm → lw_eq R (F_X11_next a1 a2 Dc) (F_X12_next a1 a2 Dm)
/-- leave -/
def ls_20 (R : td_D → td_D → Prop) : Prop := ∀ (a1 : Int) (Dc Dm : td_D), tv_in a1 → lw_ok Dc Dm → R Dc Dm → lw_eq R (F_X11_leave a1 Dc) (F_X12_leave a1 Dm)
/-- judge -/
def ls_21 (R : td_D → td_D → Prop) : Prop := ∀ (a1 : Int) (Dc Dm : td_D), tv_in a1 → lw_ok Dc Dm → R Dc Dm → lw_eq R (F_X11_judge a1 Dc) (F_X12_judge a1 Dm)
/-- from -/
def ls_22 (R : td_D → td_D → Prop) : Prop := ∀ (a1 a2 : Int) (Dc Dm : td_D), tv_in a1 → tv_in a2 → lw_ok Dc Dm → R Dc Dm → lw_eq R (F_X11_from a1 a2 Dc) (F_X12_from a1 a2 Dm)
/-- swarm -/
def ls_23 (R : td_D → td_D → Prop) : Prop := ∀ (a1 : Int) (Dc Dm : td_D), tv_in a1 → lw_ok Dc Dm → R Dc Dm → lw_eq R (F_X11_swarm a1 Dc) (F_X12_swarm a1 Dm)
/-- drawn -/
def ls_24 (R : td_D → td_D → Prop) : Prop := ∀ (a1 a2 a3 : Int) (Dc Dm : td_D), tv_in a1 → tv_in a2 → tv_in a3 → lw_ok Dc Dm → R Dc Dm → lw_eq R (F_X11_drawn a1 a2 a3 Dc) (F_X12_drawn a1 a2 a3 Dm)
/-- takes -/
def ls_25 (R : td_D → td_D → Prop) : Prop := ∀ (a1 a2 : Int) (Dc Dm : td_D), tv_in a1 → tv_in a2 → lw_ok Dc Dm → R Dc Dm → lw_eq R (F_X11_takes a1 a2 Dc) (F_X12_takes a1 a2 Dm)
/-- puts -/
def ls_26 (R : td_D → td_D → Prop) : Prop := ∀ (a1 a2 : Int) (Dc Dm : td_D), tv_in a1 → tv_in a2 → lw_ok Dc Dm → R Dc Dm → lw_eq R (F_X11_puts a1 a2 Dc) (F_X12_puts a1 a2 Dm)
/-- day -/
def ls_27 (R : td_D → td_D → Prop) : Prop := ∀ (Dc Dm : td_D), lw_ok Dc Dm → R Dc Dm → lw_eq R (F_X11_day Dc) (F_X12_day Dm)
/-- does -/
def ls_28 (R : td_D → td_D → Prop) : Prop := ∀ (a1 : Int) (Dc Dm : td_D), tv_in a1 → lw_ok Dc Dm → R Dc Dm → lw_eq R (F_X11_does a1 Dc) (F_X12_does a1 Dm)
/-- marry -/
def ls_29 (R : td_D → td_D → Prop) : Prop := ∀ (a1 : Int) (Dc Dm : td_D), tv_in a1 → lw_ok Dc Dm → R Dc Dm → lw_eq R (F_X11_marry a1 Dc) (F_X12_marry a1 Dm)
/-- led -/
def ls_30 (R : td_D → td_D → Prop) : Prop := ∀ (a1 : Int) (Dc Dm : td_D), tv_in a1 → lw_ok Dc Dm → R Dc Dm → lw_eq R (F_X11_led a1 Dc) (F_X12_led a1 Dm)
/-- image -/
def ls_31 (R : td_D → td_D → Prop) : Prop := ∀ (Dc Dm : td_D), lw_ok Dc Dm → R Dc Dm → lw_eq R (F_X11_image Dc) (F_X12_image Dm)
/-- back -/
def ls_32 (R : td_D → td_D → Prop) : Prop := ∀ (Dc Dm : td_D), lw_ok Dc Dm → R Dc Dm → lw_eq R (F_X11_back Dc) (F_X12_back Dm)
/-- undo -/
def ls_33 (R : td_D → td_D → Prop) : Prop := ∀ (Dc Dm : td_D), lw_ok Dc Dm → R Dc Dm → lw_eq R (F_X11_undo Dc) (F_X12_undo Dm)
/-- redo -/
def ls_34 (R : td_D → td_D → Prop) : Prop := ∀ (Dc Dm : td_D), lw_ok Dc Dm → R Dc Dm → lw_eq R (F_X11_redo Dc) (F_X12_redo Dm)
/-- body -/
def ls_35 (R : td_D → td_D → Prop) : Prop := ∀ (a1 : Int) (Dc Dm : td_D), tv_in a1 → lw_ok Dc Dm → R Dc Dm → lw_eq R (F_X11_body a1 Dc) (F_X12_body a1 Dm)
/-- act -/
def ls_36 (R : td_D → td_D → Prop) : Prop := ∀ (a1 a2 a3 : Int) (Dc Dm : td_D), tv_in a1 → tv_in a2 → tv_in a3 → lw_ok Dc Dm → R Dc Dm → lw_eq R (F_X11_act a1 a2 a3 Dc) (F_X12_act a1 a2 a3 Dm)
/-- trace -/
def ls_37 (R : td_D → td_D → Prop) : Prop := ∀ (a1 : Int) (Dc Dm : td_D), tv_in a1 → lw_ok Dc Dm → R Dc Dm → lw_eq R (F_X11_trace a1 Dc) (F_X12_trace a1 Dm)
/-- keep -/
def ls_38 (R : td_D → td_D → Prop) : Prop := ∀ (a1 a2 : Int) (Dc Dm : td_D), tv_in a1 → tv_in a2 → lw_ok Dc Dm → R Dc Dm → lw_eq R (F_X11_keep a1 a2 Dc) (F_X12_keep a1 a2 Dm)
/-- row -/
def ls_39 (R : td_D → td_D → Prop) : Prop := ∀ (a1 a2 a3 : Int) (Dc Dm : td_D), tv_in a1 → tv_in a2 → tv_in a3 → lw_ok Dc Dm → R Dc Dm → lw_eq R (F_X11_row a1 a2 a3 Dc) (F_X12_row a1 a2 a3 Dm)
/-- put -/
def ls_40 (R : td_D → td_D → Prop) : Prop := ∀ (a1 a2 a3 : Int) (Dc Dm : td_D), tv_in a1 → tv_in a2 → tv_inl a3 → lw_ok Dc Dm → R Dc Dm → lw_eq R (F_X11_put a1 a2 a3 Dc) (F_X12_put a1 a2 a3 Dm)
/-- element -/
def ls_41 (R : td_D → td_D → Prop) : Prop := ∀ (a1 a2 : Int) (Dc Dm : td_D), tv_in a1 → tv_in a2 → lw_ok Dc Dm → R Dc Dm → lw_eq R (F_X11_element a1 a2 Dc) (F_X12_element a1 a2 Dm)
/-- shift -/
def ls_42 (R : td_D → td_D → Prop) : Prop := ∀ (a1 a2 a3 a4 a5 : Int) (Dc Dm : td_D), tv_in a1 → tv_in a2 → tv_in a3 → tv_in a4 → tv_in a5 → lw_ok Dc Dm → R Dc Dm → lw_eq R (F_X11_shift a1 a2 a3 a4 a5 Dc) (F_X12_shift a1 a2 a3 a4 a5 Dm)
/-- taken -/
def ls_43 (R : td_D → td_D → Prop) : Prop := ∀ (a1 a2 : Int) (Dc Dm : td_D), tv_in a1 → tv_in a2 → lw_ok Dc Dm → R Dc Dm → lw_eq R (F_X11_taken a1 a2 Dc) (F_X12_taken a1 a2 Dm)
/-- count -/
def ls_44 (R : td_D → td_D → Prop) : Prop := ∀ (a1 : Int) (Dc Dm : td_D), tv_in a1 → lw_ok Dc Dm → R Dc Dm → lw_eq R (F_X11_count a1 Dc) (F_X12_count a1 Dm)
def lw_steps (R : td_D → td_D → Prop) : Prop := ls_0 R ∧ ls_1 R ∧ ls_2 R ∧ ls_3 R ∧ ls_4 R ∧ ls_5 R ∧ ls_6 R ∧ ls_7 R ∧ ls_8 R ∧ ls_9 R ∧ ls_10 R ∧ ls_11 R ∧ ls_12 R ∧ ls_13 R ∧ ls_14 R ∧ ls_15 R ∧ ls_16 R ∧ ls_17 R ∧ ls_18 R ∧ ls_19 R ∧ ls_20 R ∧ ls_21 R ∧ ls_22 R ∧ ls_23 R ∧ ls_24 R ∧ ls_25 R ∧ ls_26 R ∧ ls_27 R ∧ ls_28 R ∧ ls_29 R ∧ ls_30 R ∧ ls_31 R ∧ ls_32 R ∧ ls_33 R ∧ ls_34 R ∧ ls_35 R ∧ ls_36 R ∧ ls_37 R ∧ ls_38 R ∧ ls_39 R ∧ ls_40 R ∧ ls_41 R ∧ ls_42 R ∧ ls_43 R ∧ ls_44 R
section LC
variable {p : Program} {l : Launch} {e : Env} {s : State} {m : MethodId} {below : List Frame} {meth : Method} {c : Code} {b : Nat} {Ec Em : tv_E} {Dc Dm : td_D} {L : Nat} {xs : Nat → Int32}
theorem lw_ix {L k : Nat} (hk : k < L) (hL : L ≤ 3072) : tv_in ((k : Nat) : Int) ∧ 0 ≤ ((k : Nat) : Int) ∧ ((k : Nat) : Int) < (L : Int) := by unfold tv_in; omega
theorem lw_and63 (a : Int) : 0 ≤ tv_and a 63 ∧ tv_and a 63 ≤ 63 := by
  obtain ⟨j, hj, e⟩ := pk_andE (Int32.ofInt a) (m := Int32.ofInt 63) 6 rfl
  unfold tv_and
  rw [e, nI_toInt (by omega)]
  omega
set_option maxRecDepth 20000 in
theorem lc_0 (C : lw_C p s m meth c b L xs Ec Em) (hL : L ≤ 3072) {R : td_D → td_D → Prop} (hs : ls_0 R) {i : Nat} (hi : i + 6 ≤ L) (ho : lw_ok Dc Dm) (hR : R Dc Dm) (next : ∀ Dc' Dm', lw_ok Dc' Dm' → R Dc' Dm' → lw_F p l e s m below meth c b Ec Em 1604 [tv_S 2, tv_R 1, tv_S 3, tv_I (i : Int)] [] Dc' Dm') : lw_F p l e s m below meth c b Ec Em 228 [tv_S 2, tv_R 1, tv_S 3, tv_I (i : Int)] [] Dc Dm := by
  obtain ⟨r, D1, D2, e1, e2, hR2⟩ := hs ((xs (((i + 1 : Nat) : Int)).toNat).toInt) Dc Dm (tv_inI _) ho hR
  refine lg_aloadR (r := 0) (i := 1) C rfl rfl dL_law_228 ?_
  refine lg_aloadS (i := 0) C rfl rfl dL_law_229 ?_
  refine lg_iload (i := 3) C rfl rfl dL_law_230 ?_
  refine lg_iconst C dL_law_231 ?_
  refine lg_iadd (x := ((i + 1 : Nat) : Int)) C (by unfold tv_w; omega) dL_law_232 ?_
  refine lg_iald C (lw_ix (by omega) (by omega)) dL_law_233 ?_
  refine lg_callC (y2 := mX11_person) (as := [tv_I ((xs (((i + 1 : Nat) : Int)).toNat).toInt)]) (st := []) (d := 0) (T := TX11) C rfl tw_X11_person tx_X11_person tl_L_13 rfl rfl (Nat.le_of_ble_eq_true rfl) (by decide) dL_law_234 (tv_c1 (tv_inI _) (fun v hv => by cases hv)) ho.1 (S_X11_person l C.2.2.2.2.2.2.2.2.2.2.2.2.1 _ ((xs (((i + 1 : Nat) : Int)).toNat).toInt) Dc) e1 (fun oc => ?_)
  show lw_F p l e s m below meth c b Ec Em 237 _ [tv_I r] D1 Dm
  refine lg_aloadS (i := 2) C rfl rfl dL_law_237 ?_
  refine lg_aloadS (i := 0) C rfl rfl dL_law_238 ?_
  refine lg_iload (i := 3) C rfl rfl dL_law_239 ?_
  refine lg_iconst C dL_law_240 ?_
  refine lg_iadd (x := ((i + 1 : Nat) : Int)) C (by unfold tv_w; omega) dL_law_241 ?_
  refine lg_iald C (lw_ix (by omega) (by omega)) dL_law_242 ?_
  refine lg_callM (y2 := mX12_person) (as := [tv_I ((xs (((i + 1 : Nat) : Int)).toNat).toInt)]) (st := [tv_I r]) C rfl tw_X12_person tx_X12_person tl_L_17 rfl rfl (Nat.le_of_ble_eq_true rfl) dL_law_243 (tv_c1 (tv_inI _) (fun v hv => by cases hv)) rfl ho.2 (S_X12_person l C.2.2.2.2.2.2.2.2.2.2.2.2.2 _ ((xs (((i + 1 : Nat) : Int)).toNat).toInt) Dm) e2 (fun om => ?_)
  show lw_F p l e s m below meth c b Ec Em 246 _ [tv_I r, tv_I r] D1 D2
  exact lg_same (tgt := 1604) C rfl dL_law_246 (next D1 D2 ⟨oc, om⟩ hR2)
set_option maxRecDepth 20000 in
theorem lc_1 (C : lw_C p s m meth c b L xs Ec Em) (hL : L ≤ 3072) {R : td_D → td_D → Prop} (hs : ls_1 R) {i : Nat} (hi : i + 6 ≤ L) (ho : lw_ok Dc Dm) (hR : R Dc Dm) (next : ∀ Dc' Dm', lw_ok Dc' Dm' → R Dc' Dm' → lw_F p l e s m below meth c b Ec Em 1604 [tv_S 2, tv_R 1, tv_S 3, tv_I (i : Int)] [] Dc' Dm') : lw_F p l e s m below meth c b Ec Em 251 [tv_S 2, tv_R 1, tv_S 3, tv_I (i : Int)] [] Dc Dm := by
  obtain ⟨r, D1, D2, e1, e2, hR2⟩ := hs ((xs (((i + 1 : Nat) : Int)).toNat).toInt) Dc Dm (tv_inI _) ho hR
  refine lg_aloadR (r := 0) (i := 1) C rfl rfl dL_law_251 ?_
  refine lg_aloadS (i := 0) C rfl rfl dL_law_252 ?_
  refine lg_iload (i := 3) C rfl rfl dL_law_253 ?_
  refine lg_iconst C dL_law_254 ?_
  refine lg_iadd (x := ((i + 1 : Nat) : Int)) C (by unfold tv_w; omega) dL_law_255 ?_
  refine lg_iald C (lw_ix (by omega) (by omega)) dL_law_256 ?_
  refine lg_callC (y2 := mX11_hive) (as := [tv_I ((xs (((i + 1 : Nat) : Int)).toNat).toInt)]) (st := []) (d := 0) (T := TX11) C rfl tw_X11_hive tx_X11_hive tl_L_18 rfl rfl (Nat.le_of_ble_eq_true rfl) (by decide) dL_law_257 (tv_c1 (tv_inI _) (fun v hv => by cases hv)) ho.1 (S_X11_hive l C.2.2.2.2.2.2.2.2.2.2.2.2.1 _ ((xs (((i + 1 : Nat) : Int)).toNat).toInt) Dc) e1 (fun oc => ?_)
  show lw_F p l e s m below meth c b Ec Em 260 _ [tv_I r] D1 Dm
  refine lg_aloadS (i := 2) C rfl rfl dL_law_260 ?_
  refine lg_aloadS (i := 0) C rfl rfl dL_law_261 ?_
  refine lg_iload (i := 3) C rfl rfl dL_law_262 ?_
  refine lg_iconst C dL_law_263 ?_
  refine lg_iadd (x := ((i + 1 : Nat) : Int)) C (by unfold tv_w; omega) dL_law_264 ?_
  refine lg_iald C (lw_ix (by omega) (by omega)) dL_law_265 ?_
  refine lg_callM (y2 := mX12_hive) (as := [tv_I ((xs (((i + 1 : Nat) : Int)).toNat).toInt)]) (st := [tv_I r]) C rfl tw_X12_hive tx_X12_hive tl_L_21 rfl rfl (Nat.le_of_ble_eq_true rfl) dL_law_266 (tv_c1 (tv_inI _) (fun v hv => by cases hv)) rfl ho.2 (S_X12_hive l C.2.2.2.2.2.2.2.2.2.2.2.2.2 _ ((xs (((i + 1 : Nat) : Int)).toNat).toInt) Dm) e2 (fun om => ?_)
  show lw_F p l e s m below meth c b Ec Em 269 _ [tv_I r, tv_I r] D1 D2
  exact lg_same (tgt := 1604) C rfl dL_law_269 (next D1 D2 ⟨oc, om⟩ hR2)
set_option maxRecDepth 20000 in
theorem lc_2 (C : lw_C p s m meth c b L xs Ec Em) (hL : L ≤ 3072) {R : td_D → td_D → Prop} (hs : ls_2 R) {i : Nat} (hi : i + 6 ≤ L) (ho : lw_ok Dc Dm) (hR : R Dc Dm) (next : ∀ Dc' Dm', lw_ok Dc' Dm' → R Dc' Dm' → lw_F p l e s m below meth c b Ec Em 1604 [tv_S 2, tv_R 1, tv_S 3, tv_I (i : Int)] [] Dc' Dm') : lw_F p l e s m below meth c b Ec Em 274 [tv_S 2, tv_R 1, tv_S 3, tv_I (i : Int)] [] Dc Dm := by
  obtain ⟨r, D1, D2, e1, e2, hR2⟩ := hs ((xs (((i + 1 : Nat) : Int)).toNat).toInt) ((xs (((i + 2 : Nat) : Int)).toNat).toInt) Dc Dm (tv_inI _) (tv_inI _) ho hR
  refine lg_aloadR (r := 0) (i := 1) C rfl rfl dL_law_274 ?_
  refine lg_aloadS (i := 0) C rfl rfl dL_law_275 ?_
  refine lg_iload (i := 3) C rfl rfl dL_law_276 ?_
  refine lg_iconst C dL_law_277 ?_
  refine lg_iadd (x := ((i + 1 : Nat) : Int)) C (by unfold tv_w; omega) dL_law_278 ?_
  refine lg_iald C (lw_ix (by omega) (by omega)) dL_law_279 ?_
  refine lg_aloadS (i := 0) C rfl rfl dL_law_280 ?_
  refine lg_iload (i := 3) C rfl rfl dL_law_281 ?_
  refine lg_iconst C dL_law_282 ?_
  refine lg_iadd (x := ((i + 2 : Nat) : Int)) C (by unfold tv_w; omega) dL_law_283 ?_
  refine lg_iald C (lw_ix (by omega) (by omega)) dL_law_284 ?_
  refine lg_callC (y2 := mX11_deed) (as := [tv_I ((xs (((i + 1 : Nat) : Int)).toNat).toInt), tv_I ((xs (((i + 2 : Nat) : Int)).toNat).toInt)]) (st := []) (d := 0) (T := TX11) C rfl tw_X11_deed tx_X11_deed tl_L_22 rfl rfl (Nat.le_of_ble_eq_true rfl) (by decide) dL_law_285 (tv_c1 (tv_inI _) (tv_c1 (tv_inI _) (fun v hv => by cases hv))) ho.1 (S_X11_deed l C.2.2.2.2.2.2.2.2.2.2.2.2.1 _ ((xs (((i + 1 : Nat) : Int)).toNat).toInt) ((xs (((i + 2 : Nat) : Int)).toNat).toInt) Dc) e1 (fun oc => ?_)
  show lw_F p l e s m below meth c b Ec Em 288 _ [tv_I r] D1 Dm
  refine lg_aloadS (i := 2) C rfl rfl dL_law_288 ?_
  refine lg_aloadS (i := 0) C rfl rfl dL_law_289 ?_
  refine lg_iload (i := 3) C rfl rfl dL_law_290 ?_
  refine lg_iconst C dL_law_291 ?_
  refine lg_iadd (x := ((i + 1 : Nat) : Int)) C (by unfold tv_w; omega) dL_law_292 ?_
  refine lg_iald C (lw_ix (by omega) (by omega)) dL_law_293 ?_
  refine lg_aloadS (i := 0) C rfl rfl dL_law_294 ?_
  refine lg_iload (i := 3) C rfl rfl dL_law_295 ?_
  refine lg_iconst C dL_law_296 ?_
  refine lg_iadd (x := ((i + 2 : Nat) : Int)) C (by unfold tv_w; omega) dL_law_297 ?_
  refine lg_iald C (lw_ix (by omega) (by omega)) dL_law_298 ?_
  refine lg_callM (y2 := mX12_deed) (as := [tv_I ((xs (((i + 1 : Nat) : Int)).toNat).toInt), tv_I ((xs (((i + 2 : Nat) : Int)).toNat).toInt)]) (st := [tv_I r]) C rfl tw_X12_deed tx_X12_deed tl_L_26 rfl rfl (Nat.le_of_ble_eq_true rfl) dL_law_299 (tv_c1 (tv_inI _) (tv_c1 (tv_inI _) (fun v hv => by cases hv))) rfl ho.2 (S_X12_deed l C.2.2.2.2.2.2.2.2.2.2.2.2.2 _ ((xs (((i + 1 : Nat) : Int)).toNat).toInt) ((xs (((i + 2 : Nat) : Int)).toNat).toInt) Dm) e2 (fun om => ?_)
  show lw_F p l e s m below meth c b Ec Em 302 _ [tv_I r, tv_I r] D1 D2
  exact lg_same (tgt := 1604) C rfl dL_law_302 (next D1 D2 ⟨oc, om⟩ hR2)
set_option maxRecDepth 20000 in
theorem lc_3 (C : lw_C p s m meth c b L xs Ec Em) (hL : L ≤ 3072) {R : td_D → td_D → Prop} (hs : ls_3 R) {i : Nat} (hi : i + 6 ≤ L) (ho : lw_ok Dc Dm) (hR : R Dc Dm) (next : ∀ Dc' Dm', lw_ok Dc' Dm' → R Dc' Dm' → lw_F p l e s m below meth c b Ec Em 1604 [tv_S 2, tv_R 1, tv_S 3, tv_I (i : Int)] [] Dc' Dm') : lw_F p l e s m below meth c b Ec Em 307 [tv_S 2, tv_R 1, tv_S 3, tv_I (i : Int)] [] Dc Dm := by
  obtain ⟨r, D1, D2, e1, e2, hR2⟩ := hs ((xs (((i + 1 : Nat) : Int)).toNat).toInt) ((xs (((i + 2 : Nat) : Int)).toNat).toInt) ((xs (((i + 3 : Nat) : Int)).toNat).toInt) Dc Dm (tv_inI _) (tv_inI _) (tv_inI _) ho hR
  refine lg_aloadR (r := 0) (i := 1) C rfl rfl dL_law_307 ?_
  refine lg_aloadS (i := 0) C rfl rfl dL_law_308 ?_
  refine lg_iload (i := 3) C rfl rfl dL_law_309 ?_
  refine lg_iconst C dL_law_310 ?_
  refine lg_iadd (x := ((i + 1 : Nat) : Int)) C (by unfold tv_w; omega) dL_law_311 ?_
  refine lg_iald C (lw_ix (by omega) (by omega)) dL_law_312 ?_
  refine lg_aloadS (i := 0) C rfl rfl dL_law_313 ?_
  refine lg_iload (i := 3) C rfl rfl dL_law_314 ?_
  refine lg_iconst C dL_law_315 ?_
  refine lg_iadd (x := ((i + 2 : Nat) : Int)) C (by unfold tv_w; omega) dL_law_316 ?_
  refine lg_iald C (lw_ix (by omega) (by omega)) dL_law_317 ?_
  refine lg_aloadS (i := 0) C rfl rfl dL_law_318 ?_
  refine lg_iload (i := 3) C rfl rfl dL_law_319 ?_
  refine lg_iconst C dL_law_320 ?_
  refine lg_iadd (x := ((i + 3 : Nat) : Int)) C (by unfold tv_w; omega) dL_law_321 ?_
  refine lg_iald C (lw_ix (by omega) (by omega)) dL_law_322 ?_
  refine lg_callC (y2 := mX11_deeds) (as := [tv_I ((xs (((i + 1 : Nat) : Int)).toNat).toInt), tv_I ((xs (((i + 2 : Nat) : Int)).toNat).toInt), tv_I ((xs (((i + 3 : Nat) : Int)).toNat).toInt)]) (st := []) (d := 0) (T := TX11) C rfl tw_X11_deeds tx_X11_deeds tl_L_27 rfl rfl (Nat.le_of_ble_eq_true rfl) (by decide) dL_law_323 (tv_c1 (tv_inI _) (tv_c1 (tv_inI _) (tv_c1 (tv_inI _) (fun v hv => by cases hv)))) ho.1 (S_X11_deeds l C.2.2.2.2.2.2.2.2.2.2.2.2.1 _ ((xs (((i + 1 : Nat) : Int)).toNat).toInt) ((xs (((i + 2 : Nat) : Int)).toNat).toInt) ((xs (((i + 3 : Nat) : Int)).toNat).toInt) Dc) e1 (fun oc => ?_)
  show lw_F p l e s m below meth c b Ec Em 326 _ [tv_I r] D1 Dm
  refine lg_aloadS (i := 2) C rfl rfl dL_law_326 ?_
  refine lg_aloadS (i := 0) C rfl rfl dL_law_327 ?_
  refine lg_iload (i := 3) C rfl rfl dL_law_328 ?_
  refine lg_iconst C dL_law_329 ?_
  refine lg_iadd (x := ((i + 1 : Nat) : Int)) C (by unfold tv_w; omega) dL_law_330 ?_
  refine lg_iald C (lw_ix (by omega) (by omega)) dL_law_331 ?_
  refine lg_aloadS (i := 0) C rfl rfl dL_law_332 ?_
  refine lg_iload (i := 3) C rfl rfl dL_law_333 ?_
  refine lg_iconst C dL_law_334 ?_
  refine lg_iadd (x := ((i + 2 : Nat) : Int)) C (by unfold tv_w; omega) dL_law_335 ?_
  refine lg_iald C (lw_ix (by omega) (by omega)) dL_law_336 ?_
  refine lg_aloadS (i := 0) C rfl rfl dL_law_337 ?_
  refine lg_iload (i := 3) C rfl rfl dL_law_338 ?_
  refine lg_iconst C dL_law_339 ?_
  refine lg_iadd (x := ((i + 3 : Nat) : Int)) C (by unfold tv_w; omega) dL_law_340 ?_
  refine lg_iald C (lw_ix (by omega) (by omega)) dL_law_341 ?_
  refine lg_callM (y2 := mX12_deeds) (as := [tv_I ((xs (((i + 1 : Nat) : Int)).toNat).toInt), tv_I ((xs (((i + 2 : Nat) : Int)).toNat).toInt), tv_I ((xs (((i + 3 : Nat) : Int)).toNat).toInt)]) (st := [tv_I r]) C rfl tw_X12_deeds tx_X12_deeds tl_L_31 rfl rfl (Nat.le_of_ble_eq_true rfl) dL_law_342 (tv_c1 (tv_inI _) (tv_c1 (tv_inI _) (tv_c1 (tv_inI _) (fun v hv => by cases hv)))) rfl ho.2 (S_X12_deeds l C.2.2.2.2.2.2.2.2.2.2.2.2.2 _ ((xs (((i + 1 : Nat) : Int)).toNat).toInt) ((xs (((i + 2 : Nat) : Int)).toNat).toInt) ((xs (((i + 3 : Nat) : Int)).toNat).toInt) Dm) e2 (fun om => ?_)
  show lw_F p l e s m below meth c b Ec Em 345 _ [tv_I r, tv_I r] D1 D2
  exact lg_same (tgt := 1604) C rfl dL_law_345 (next D1 D2 ⟨oc, om⟩ hR2)
set_option maxRecDepth 20000 in
theorem lc_4 (C : lw_C p s m meth c b L xs Ec Em) (hL : L ≤ 3072) {R : td_D → td_D → Prop} (hs : ls_4 R) {i : Nat} (hi : i + 6 ≤ L) (ho : lw_ok Dc Dm) (hR : R Dc Dm) (next : ∀ Dc' Dm', lw_ok Dc' Dm' → R Dc' Dm' → lw_F p l e s m below meth c b Ec Em 1604 [tv_S 2, tv_R 1, tv_S 3, tv_I (i : Int)] [] Dc' Dm') : lw_F p l e s m below meth c b Ec Em 350 [tv_S 2, tv_R 1, tv_S 3, tv_I (i : Int)] [] Dc Dm := by
  obtain ⟨r, D1, D2, e1, e2, hR2⟩ := hs ((xs (((i + 1 : Nat) : Int)).toNat).toInt) ((xs (((i + 2 : Nat) : Int)).toNat).toInt) ((xs (((i + 3 : Nat) : Int)).toNat).toInt) Dc Dm (tv_inI _) (tv_inI _) (tv_inI _) ho hR
  refine lg_aloadR (r := 0) (i := 1) C rfl rfl dL_law_350 ?_
  refine lg_aloadS (i := 0) C rfl rfl dL_law_351 ?_
  refine lg_iload (i := 3) C rfl rfl dL_law_352 ?_
  refine lg_iconst C dL_law_353 ?_
  refine lg_iadd (x := ((i + 1 : Nat) : Int)) C (by unfold tv_w; omega) dL_law_354 ?_
  refine lg_iald C (lw_ix (by omega) (by omega)) dL_law_355 ?_
  refine lg_aloadS (i := 0) C rfl rfl dL_law_356 ?_
  refine lg_iload (i := 3) C rfl rfl dL_law_357 ?_
  refine lg_iconst C dL_law_358 ?_
  refine lg_iadd (x := ((i + 2 : Nat) : Int)) C (by unfold tv_w; omega) dL_law_359 ?_
  refine lg_iald C (lw_ix (by omega) (by omega)) dL_law_360 ?_
  refine lg_aloadS (i := 0) C rfl rfl dL_law_361 ?_
  refine lg_iload (i := 3) C rfl rfl dL_law_362 ?_
  refine lg_iconst C dL_law_363 ?_
  refine lg_iadd (x := ((i + 3 : Nat) : Int)) C (by unfold tv_w; omega) dL_law_364 ?_
  refine lg_iald C (lw_ix (by omega) (by omega)) dL_law_365 ?_
  refine lg_callC (y2 := mX11_mend) (as := [tv_I ((xs (((i + 1 : Nat) : Int)).toNat).toInt), tv_I ((xs (((i + 2 : Nat) : Int)).toNat).toInt), tv_I ((xs (((i + 3 : Nat) : Int)).toNat).toInt)]) (st := []) (d := 0) (T := TX11) C rfl tw_X11_mend tx_X11_mend tl_L_32 rfl rfl (Nat.le_of_ble_eq_true rfl) (by decide) dL_law_366 (tv_c1 (tv_inI _) (tv_c1 (tv_inI _) (tv_c1 (tv_inI _) (fun v hv => by cases hv)))) ho.1 (S_X11_mend l C.2.2.2.2.2.2.2.2.2.2.2.2.1 _ ((xs (((i + 1 : Nat) : Int)).toNat).toInt) ((xs (((i + 2 : Nat) : Int)).toNat).toInt) ((xs (((i + 3 : Nat) : Int)).toNat).toInt) Dc) e1 (fun oc => ?_)
  show lw_F p l e s m below meth c b Ec Em 369 _ [tv_I r] D1 Dm
  refine lg_aloadS (i := 2) C rfl rfl dL_law_369 ?_
  refine lg_aloadS (i := 0) C rfl rfl dL_law_370 ?_
  refine lg_iload (i := 3) C rfl rfl dL_law_371 ?_
  refine lg_iconst C dL_law_372 ?_
  refine lg_iadd (x := ((i + 1 : Nat) : Int)) C (by unfold tv_w; omega) dL_law_373 ?_
  refine lg_iald C (lw_ix (by omega) (by omega)) dL_law_374 ?_
  refine lg_aloadS (i := 0) C rfl rfl dL_law_375 ?_
  refine lg_iload (i := 3) C rfl rfl dL_law_376 ?_
  refine lg_iconst C dL_law_377 ?_
  refine lg_iadd (x := ((i + 2 : Nat) : Int)) C (by unfold tv_w; omega) dL_law_378 ?_
  refine lg_iald C (lw_ix (by omega) (by omega)) dL_law_379 ?_
  refine lg_aloadS (i := 0) C rfl rfl dL_law_380 ?_
  refine lg_iload (i := 3) C rfl rfl dL_law_381 ?_
  refine lg_iconst C dL_law_382 ?_
  refine lg_iadd (x := ((i + 3 : Nat) : Int)) C (by unfold tv_w; omega) dL_law_383 ?_
  refine lg_iald C (lw_ix (by omega) (by omega)) dL_law_384 ?_
  refine lg_callM (y2 := mX12_mend) (as := [tv_I ((xs (((i + 1 : Nat) : Int)).toNat).toInt), tv_I ((xs (((i + 2 : Nat) : Int)).toNat).toInt), tv_I ((xs (((i + 3 : Nat) : Int)).toNat).toInt)]) (st := [tv_I r]) C rfl tw_X12_mend tx_X12_mend tl_L_35 rfl rfl (Nat.le_of_ble_eq_true rfl) dL_law_385 (tv_c1 (tv_inI _) (tv_c1 (tv_inI _) (tv_c1 (tv_inI _) (fun v hv => by cases hv)))) rfl ho.2 (S_X12_mend l C.2.2.2.2.2.2.2.2.2.2.2.2.2 _ ((xs (((i + 1 : Nat) : Int)).toNat).toInt) ((xs (((i + 2 : Nat) : Int)).toNat).toInt) ((xs (((i + 3 : Nat) : Int)).toNat).toInt) Dm) e2 (fun om => ?_)
  show lw_F p l e s m below meth c b Ec Em 388 _ [tv_I r, tv_I r] D1 D2
  exact lg_same (tgt := 1604) C rfl dL_law_388 (next D1 D2 ⟨oc, om⟩ hR2)
set_option maxRecDepth 20000 in
theorem lc_5 (C : lw_C p s m meth c b L xs Ec Em) (hL : L ≤ 3072) {R : td_D → td_D → Prop} (hs : ls_5 R) {i : Nat} (hi : i + 6 ≤ L) (ho : lw_ok Dc Dm) (hR : R Dc Dm) (next : ∀ Dc' Dm', lw_ok Dc' Dm' → R Dc' Dm' → lw_F p l e s m below meth c b Ec Em 1604 [tv_S 2, tv_R 1, tv_S 3, tv_I (i : Int)] [] Dc' Dm') : lw_F p l e s m below meth c b Ec Em 393 [tv_S 2, tv_R 1, tv_S 3, tv_I (i : Int)] [] Dc Dm := by
  obtain ⟨r, D1, D2, e1, e2, hR2⟩ := hs ((xs (((i + 1 : Nat) : Int)).toNat).toInt) ((xs (((i + 2 : Nat) : Int)).toNat).toInt) Dc Dm (tv_inI _) (tv_inI _) ho hR
  refine lg_aloadR (r := 0) (i := 1) C rfl rfl dL_law_393 ?_
  refine lg_aloadS (i := 0) C rfl rfl dL_law_394 ?_
  refine lg_iload (i := 3) C rfl rfl dL_law_395 ?_
  refine lg_iconst C dL_law_396 ?_
  refine lg_iadd (x := ((i + 1 : Nat) : Int)) C (by unfold tv_w; omega) dL_law_397 ?_
  refine lg_iald C (lw_ix (by omega) (by omega)) dL_law_398 ?_
  refine lg_aloadS (i := 0) C rfl rfl dL_law_399 ?_
  refine lg_iload (i := 3) C rfl rfl dL_law_400 ?_
  refine lg_iconst C dL_law_401 ?_
  refine lg_iadd (x := ((i + 2 : Nat) : Int)) C (by unfold tv_w; omega) dL_law_402 ?_
  refine lg_iald C (lw_ix (by omega) (by omega)) dL_law_403 ?_
  refine lg_callC (y2 := mX11_of) (as := [tv_I ((xs (((i + 1 : Nat) : Int)).toNat).toInt), tv_I ((xs (((i + 2 : Nat) : Int)).toNat).toInt)]) (st := []) (d := 0) (T := TX11) C rfl tw_X11_of tx_X11_of tl_L_36 rfl rfl (Nat.le_of_ble_eq_true rfl) (by decide) dL_law_404 (tv_c1 (tv_inI _) (tv_c1 (tv_inI _) (fun v hv => by cases hv))) ho.1 (S_X11_of l C.2.2.2.2.2.2.2.2.2.2.2.2.1 _ ((xs (((i + 1 : Nat) : Int)).toNat).toInt) ((xs (((i + 2 : Nat) : Int)).toNat).toInt) Dc) e1 (fun oc => ?_)
  show lw_F p l e s m below meth c b Ec Em 407 _ [tv_I r] D1 Dm
  refine lg_aloadS (i := 2) C rfl rfl dL_law_407 ?_
  refine lg_aloadS (i := 0) C rfl rfl dL_law_408 ?_
  refine lg_iload (i := 3) C rfl rfl dL_law_409 ?_
  refine lg_iconst C dL_law_410 ?_
  refine lg_iadd (x := ((i + 1 : Nat) : Int)) C (by unfold tv_w; omega) dL_law_411 ?_
  refine lg_iald C (lw_ix (by omega) (by omega)) dL_law_412 ?_
  refine lg_aloadS (i := 0) C rfl rfl dL_law_413 ?_
  refine lg_iload (i := 3) C rfl rfl dL_law_414 ?_
  refine lg_iconst C dL_law_415 ?_
  refine lg_iadd (x := ((i + 2 : Nat) : Int)) C (by unfold tv_w; omega) dL_law_416 ?_
  refine lg_iald C (lw_ix (by omega) (by omega)) dL_law_417 ?_
  refine lg_callM (y2 := mX12_of) (as := [tv_I ((xs (((i + 1 : Nat) : Int)).toNat).toInt), tv_I ((xs (((i + 2 : Nat) : Int)).toNat).toInt)]) (st := [tv_I r]) C rfl tw_X12_of tx_X12_of tl_L_39 rfl rfl (Nat.le_of_ble_eq_true rfl) dL_law_418 (tv_c1 (tv_inI _) (tv_c1 (tv_inI _) (fun v hv => by cases hv))) rfl ho.2 (S_X12_of l C.2.2.2.2.2.2.2.2.2.2.2.2.2 _ ((xs (((i + 1 : Nat) : Int)).toNat).toInt) ((xs (((i + 2 : Nat) : Int)).toNat).toInt) Dm) e2 (fun om => ?_)
  show lw_F p l e s m below meth c b Ec Em 421 _ [tv_I r, tv_I r] D1 D2
  exact lg_same (tgt := 1604) C rfl dL_law_421 (next D1 D2 ⟨oc, om⟩ hR2)
set_option maxRecDepth 20000 in
theorem lc_6 (C : lw_C p s m meth c b L xs Ec Em) (hL : L ≤ 3072) {R : td_D → td_D → Prop} (hs : ls_6 R) {i : Nat} (hi : i + 6 ≤ L) (ho : lw_ok Dc Dm) (hR : R Dc Dm) (next : ∀ Dc' Dm', lw_ok Dc' Dm' → R Dc' Dm' → lw_F p l e s m below meth c b Ec Em 1604 [tv_S 2, tv_R 1, tv_S 3, tv_I (i : Int)] [] Dc' Dm') : lw_F p l e s m below meth c b Ec Em 426 [tv_S 2, tv_R 1, tv_S 3, tv_I (i : Int)] [] Dc Dm := by
  obtain ⟨r, D1, D2, e1, e2, hR2⟩ := hs ((xs (((i + 1 : Nat) : Int)).toNat).toInt) Dc Dm (tv_inI _) ho hR
  refine lg_aloadR (r := 0) (i := 1) C rfl rfl dL_law_426 ?_
  refine lg_aloadS (i := 0) C rfl rfl dL_law_427 ?_
  refine lg_iload (i := 3) C rfl rfl dL_law_428 ?_
  refine lg_iconst C dL_law_429 ?_
  refine lg_iadd (x := ((i + 1 : Nat) : Int)) C (by unfold tv_w; omega) dL_law_430 ?_
  refine lg_iald C (lw_ix (by omega) (by omega)) dL_law_431 ?_
  refine lg_callC (y2 := mX11_feed) (as := [tv_I ((xs (((i + 1 : Nat) : Int)).toNat).toInt)]) (st := []) (d := 0) (T := TX11) C rfl tw_X11_feed tx_X11_feed tl_L_40 rfl rfl (Nat.le_of_ble_eq_true rfl) (by decide) dL_law_432 (tv_c1 (tv_inI _) (fun v hv => by cases hv)) ho.1 (S_X11_feed l C.2.2.2.2.2.2.2.2.2.2.2.2.1 _ ((xs (((i + 1 : Nat) : Int)).toNat).toInt) Dc) e1 (fun oc => ?_)
  show lw_F p l e s m below meth c b Ec Em 435 _ [tv_I r] D1 Dm
  refine lg_aloadS (i := 2) C rfl rfl dL_law_435 ?_
  refine lg_aloadS (i := 0) C rfl rfl dL_law_436 ?_
  refine lg_iload (i := 3) C rfl rfl dL_law_437 ?_
  refine lg_iconst C dL_law_438 ?_
  refine lg_iadd (x := ((i + 1 : Nat) : Int)) C (by unfold tv_w; omega) dL_law_439 ?_
  refine lg_iald C (lw_ix (by omega) (by omega)) dL_law_440 ?_
  refine lg_callM (y2 := mX12_feed) (as := [tv_I ((xs (((i + 1 : Nat) : Int)).toNat).toInt)]) (st := [tv_I r]) C rfl tw_X12_feed tx_X12_feed tl_L_43 rfl rfl (Nat.le_of_ble_eq_true rfl) dL_law_441 (tv_c1 (tv_inI _) (fun v hv => by cases hv)) rfl ho.2 (S_X12_feed l C.2.2.2.2.2.2.2.2.2.2.2.2.2 _ ((xs (((i + 1 : Nat) : Int)).toNat).toInt) Dm) e2 (fun om => ?_)
  show lw_F p l e s m below meth c b Ec Em 444 _ [tv_I r, tv_I r] D1 D2
  exact lg_same (tgt := 1604) C rfl dL_law_444 (next D1 D2 ⟨oc, om⟩ hR2)
set_option maxRecDepth 20000 in
theorem lc_7 (C : lw_C p s m meth c b L xs Ec Em) (hL : L ≤ 3072) {R : td_D → td_D → Prop} (hs : ls_7 R) {i : Nat} (hi : i + 6 ≤ L) (ho : lw_ok Dc Dm) (hR : R Dc Dm) (next : ∀ Dc' Dm', lw_ok Dc' Dm' → R Dc' Dm' → lw_F p l e s m below meth c b Ec Em 1604 [tv_S 2, tv_R 1, tv_S 3, tv_I (i : Int)] [] Dc' Dm') : lw_F p l e s m below meth c b Ec Em 449 [tv_S 2, tv_R 1, tv_S 3, tv_I (i : Int)] [] Dc Dm := by
  obtain ⟨r, D1, D2, e1, e2, hR2⟩ := hs Dc Dm  ho hR
  refine lg_aloadR (r := 0) (i := 1) C rfl rfl dL_law_449 ?_
  refine lg_callC (y2 := mX11_law) (as := []) (st := []) (d := 0) (T := TX11) C rfl tw_X11_law tx_X11_law tl_L_44 rfl rfl (Nat.le_of_ble_eq_true rfl) (by decide) dL_law_450 (fun v hv => by cases hv) ho.1 (S_X11_law l C.2.2.2.2.2.2.2.2.2.2.2.2.1 _ Dc) e1 (fun oc => ?_)
  show lw_F p l e s m below meth c b Ec Em 453 _ [tv_I r] D1 Dm
  refine lg_aloadS (i := 2) C rfl rfl dL_law_453 ?_
  refine lg_callM (y2 := mX12_law) (as := []) (st := [tv_I r]) C rfl tw_X12_law tx_X12_law tl_L_48 rfl rfl (Nat.le_of_ble_eq_true rfl) dL_law_454 (fun v hv => by cases hv) rfl ho.2 (S_X12_law l C.2.2.2.2.2.2.2.2.2.2.2.2.2 _ Dm) e2 (fun om => ?_)
  show lw_F p l e s m below meth c b Ec Em 457 _ [tv_I r, tv_I r] D1 D2
  exact lg_same (tgt := 1604) C rfl dL_law_457 (next D1 D2 ⟨oc, om⟩ hR2)
set_option maxRecDepth 20000 in
theorem lc_8 (C : lw_C p s m meth c b L xs Ec Em) (hL : L ≤ 3072) {R : td_D → td_D → Prop} (hs : ls_8 R) {i : Nat} (hi : i + 6 ≤ L) (ho : lw_ok Dc Dm) (hR : R Dc Dm) (next : ∀ Dc' Dm', lw_ok Dc' Dm' → R Dc' Dm' → lw_F p l e s m below meth c b Ec Em 1604 [tv_S 2, tv_R 1, tv_S 3, tv_I (i : Int)] [] Dc' Dm') : lw_F p l e s m below meth c b Ec Em 462 [tv_S 2, tv_R 1, tv_S 3, tv_I (i : Int)] [] Dc Dm := by
  obtain ⟨r, D1, D2, e1, e2, hR2⟩ := hs ((xs (((i + 1 : Nat) : Int)).toNat).toInt) ((xs (((i + 2 : Nat) : Int)).toNat).toInt) Dc Dm (tv_inI _) (tv_inI _) ho hR
  refine lg_aloadR (r := 0) (i := 1) C rfl rfl dL_law_462 ?_
  refine lg_aloadS (i := 0) C rfl rfl dL_law_463 ?_
  refine lg_iload (i := 3) C rfl rfl dL_law_464 ?_
  refine lg_iconst C dL_law_465 ?_
  refine lg_iadd (x := ((i + 1 : Nat) : Int)) C (by unfold tv_w; omega) dL_law_466 ?_
  refine lg_iald C (lw_ix (by omega) (by omega)) dL_law_467 ?_
  refine lg_aloadS (i := 0) C rfl rfl dL_law_468 ?_
  refine lg_iload (i := 3) C rfl rfl dL_law_469 ?_
  refine lg_iconst C dL_law_470 ?_
  refine lg_iadd (x := ((i + 2 : Nat) : Int)) C (by unfold tv_w; omega) dL_law_471 ?_
  refine lg_iald C (lw_ix (by omega) (by omega)) dL_law_472 ?_
  refine lg_callC (y2 := mX11_later) (as := [tv_I ((xs (((i + 1 : Nat) : Int)).toNat).toInt), tv_I ((xs (((i + 2 : Nat) : Int)).toNat).toInt)]) (st := []) (d := 0) (T := TX11) C rfl tw_X11_later tx_X11_later tl_L_49 rfl rfl (Nat.le_of_ble_eq_true rfl) (by decide) dL_law_473 (tv_c1 (tv_inI _) (tv_c1 (tv_inI _) (fun v hv => by cases hv))) ho.1 (S_X11_later l C.2.2.2.2.2.2.2.2.2.2.2.2.1 _ ((xs (((i + 1 : Nat) : Int)).toNat).toInt) ((xs (((i + 2 : Nat) : Int)).toNat).toInt) Dc) e1 (fun oc => ?_)
  show lw_F p l e s m below meth c b Ec Em 476 _ [tv_I r] D1 Dm
  refine lg_aloadS (i := 2) C rfl rfl dL_law_476 ?_
  refine lg_aloadS (i := 0) C rfl rfl dL_law_477 ?_
  refine lg_iload (i := 3) C rfl rfl dL_law_478 ?_
  refine lg_iconst C dL_law_479 ?_
  refine lg_iadd (x := ((i + 1 : Nat) : Int)) C (by unfold tv_w; omega) dL_law_480 ?_
  refine lg_iald C (lw_ix (by omega) (by omega)) dL_law_481 ?_
  refine lg_aloadS (i := 0) C rfl rfl dL_law_482 ?_
  refine lg_iload (i := 3) C rfl rfl dL_law_483 ?_
  refine lg_iconst C dL_law_484 ?_
  refine lg_iadd (x := ((i + 2 : Nat) : Int)) C (by unfold tv_w; omega) dL_law_485 ?_
  refine lg_iald C (lw_ix (by omega) (by omega)) dL_law_486 ?_
  refine lg_callM (y2 := mX12_later) (as := [tv_I ((xs (((i + 1 : Nat) : Int)).toNat).toInt), tv_I ((xs (((i + 2 : Nat) : Int)).toNat).toInt)]) (st := [tv_I r]) C rfl tw_X12_later tx_X12_later tl_L_52 rfl rfl (Nat.le_of_ble_eq_true rfl) dL_law_487 (tv_c1 (tv_inI _) (tv_c1 (tv_inI _) (fun v hv => by cases hv))) rfl ho.2 (S_X12_later l C.2.2.2.2.2.2.2.2.2.2.2.2.2 _ ((xs (((i + 1 : Nat) : Int)).toNat).toInt) ((xs (((i + 2 : Nat) : Int)).toNat).toInt) Dm) e2 (fun om => ?_)
  show lw_F p l e s m below meth c b Ec Em 490 _ [tv_I r, tv_I r] D1 D2
  exact lg_same (tgt := 1604) C rfl dL_law_490 (next D1 D2 ⟨oc, om⟩ hR2)
set_option maxRecDepth 20000 in
theorem lc_9 (C : lw_C p s m meth c b L xs Ec Em) (hL : L ≤ 3072) {R : td_D → td_D → Prop} (hs : ls_9 R) {i : Nat} (hi : i + 6 ≤ L) (ho : lw_ok Dc Dm) (hR : R Dc Dm) (next : ∀ Dc' Dm', lw_ok Dc' Dm' → R Dc' Dm' → lw_F p l e s m below meth c b Ec Em 1604 [tv_S 2, tv_R 1, tv_S 3, tv_I (i : Int)] [] Dc' Dm') : lw_F p l e s m below meth c b Ec Em 495 [tv_S 2, tv_R 1, tv_S 3, tv_I (i : Int)] [] Dc Dm := by
  obtain ⟨r, D1, D2, e1, e2, hR2⟩ := hs ((xs (((i + 1 : Nat) : Int)).toNat).toInt) Dc Dm (tv_inI _) ho hR
  refine lg_aloadR (r := 0) (i := 1) C rfl rfl dL_law_495 ?_
  refine lg_aloadS (i := 0) C rfl rfl dL_law_496 ?_
  refine lg_iload (i := 3) C rfl rfl dL_law_497 ?_
  refine lg_iconst C dL_law_498 ?_
  refine lg_iadd (x := ((i + 1 : Nat) : Int)) C (by unfold tv_w; omega) dL_law_499 ?_
  refine lg_iald C (lw_ix (by omega) (by omega)) dL_law_500 ?_
  refine lg_callC (y2 := mX11_still) (as := [tv_I ((xs (((i + 1 : Nat) : Int)).toNat).toInt)]) (st := []) (d := 0) (T := TX11) C rfl tw_X11_still tx_X11_still tl_L_53 rfl rfl (Nat.le_of_ble_eq_true rfl) (by decide) dL_law_501 (tv_c1 (tv_inI _) (fun v hv => by cases hv)) ho.1 (S_X11_still l C.2.2.2.2.2.2.2.2.2.2.2.2.1 _ ((xs (((i + 1 : Nat) : Int)).toNat).toInt) Dc) e1 (fun oc => ?_)
  show lw_F p l e s m below meth c b Ec Em 504 _ [tv_I r] D1 Dm
  refine lg_aloadS (i := 2) C rfl rfl dL_law_504 ?_
  refine lg_aloadS (i := 0) C rfl rfl dL_law_505 ?_
  refine lg_iload (i := 3) C rfl rfl dL_law_506 ?_
  refine lg_iconst C dL_law_507 ?_
  refine lg_iadd (x := ((i + 1 : Nat) : Int)) C (by unfold tv_w; omega) dL_law_508 ?_
  refine lg_iald C (lw_ix (by omega) (by omega)) dL_law_509 ?_
  refine lg_callM (y2 := mX12_still) (as := [tv_I ((xs (((i + 1 : Nat) : Int)).toNat).toInt)]) (st := [tv_I r]) C rfl tw_X12_still tx_X12_still tl_L_56 rfl rfl (Nat.le_of_ble_eq_true rfl) dL_law_510 (tv_c1 (tv_inI _) (fun v hv => by cases hv)) rfl ho.2 (S_X12_still l C.2.2.2.2.2.2.2.2.2.2.2.2.2 _ ((xs (((i + 1 : Nat) : Int)).toNat).toInt) Dm) e2 (fun om => ?_)
  show lw_F p l e s m below meth c b Ec Em 513 _ [tv_I r, tv_I r] D1 D2
  exact lg_same (tgt := 1604) C rfl dL_law_513 (next D1 D2 ⟨oc, om⟩ hR2)
set_option maxRecDepth 20000 in
theorem lc_10 (C : lw_C p s m meth c b L xs Ec Em) (hL : L ≤ 3072) {R : td_D → td_D → Prop} (hs : ls_10 R) {i : Nat} (hi : i + 6 ≤ L) (ho : lw_ok Dc Dm) (hR : R Dc Dm) (next : ∀ Dc' Dm', lw_ok Dc' Dm' → R Dc' Dm' → lw_F p l e s m below meth c b Ec Em 1604 [tv_S 2, tv_R 1, tv_S 3, tv_I (i : Int)] [] Dc' Dm') : lw_F p l e s m below meth c b Ec Em 518 [tv_S 2, tv_R 1, tv_S 3, tv_I (i : Int)] [] Dc Dm := by
  obtain ⟨r, D1, D2, e1, e2, hR2⟩ := hs ((xs (((i + 1 : Nat) : Int)).toNat).toInt) ((xs (((i + 2 : Nat) : Int)).toNat).toInt) Dc Dm (tv_inI _) (tv_inI _) ho hR
  refine lg_aloadR (r := 0) (i := 1) C rfl rfl dL_law_518 ?_
  refine lg_aloadS (i := 0) C rfl rfl dL_law_519 ?_
  refine lg_iload (i := 3) C rfl rfl dL_law_520 ?_
  refine lg_iconst C dL_law_521 ?_
  refine lg_iadd (x := ((i + 1 : Nat) : Int)) C (by unfold tv_w; omega) dL_law_522 ?_
  refine lg_iald C (lw_ix (by omega) (by omega)) dL_law_523 ?_
  refine lg_aloadS (i := 0) C rfl rfl dL_law_524 ?_
  refine lg_iload (i := 3) C rfl rfl dL_law_525 ?_
  refine lg_iconst C dL_law_526 ?_
  refine lg_iadd (x := ((i + 2 : Nat) : Int)) C (by unfold tv_w; omega) dL_law_527 ?_
  refine lg_iald C (lw_ix (by omega) (by omega)) dL_law_528 ?_
  refine lg_callC (y2 := mX11_can) (as := [tv_I ((xs (((i + 1 : Nat) : Int)).toNat).toInt), tv_I ((xs (((i + 2 : Nat) : Int)).toNat).toInt)]) (st := []) (d := 0) (T := TX11) C rfl tw_X11_can tx_X11_can tl_L_57 rfl rfl (Nat.le_of_ble_eq_true rfl) (by decide) dL_law_529 (tv_c1 (tv_inI _) (tv_c1 (tv_inI _) (fun v hv => by cases hv))) ho.1 (S_X11_can l C.2.2.2.2.2.2.2.2.2.2.2.2.1 _ ((xs (((i + 1 : Nat) : Int)).toNat).toInt) ((xs (((i + 2 : Nat) : Int)).toNat).toInt) Dc) e1 (fun oc => ?_)
  show lw_F p l e s m below meth c b Ec Em 532 _ [tv_I r] D1 Dm
  refine lg_aloadS (i := 2) C rfl rfl dL_law_532 ?_
  refine lg_aloadS (i := 0) C rfl rfl dL_law_533 ?_
  refine lg_iload (i := 3) C rfl rfl dL_law_534 ?_
  refine lg_iconst C dL_law_535 ?_
  refine lg_iadd (x := ((i + 1 : Nat) : Int)) C (by unfold tv_w; omega) dL_law_536 ?_
  refine lg_iald C (lw_ix (by omega) (by omega)) dL_law_537 ?_
  refine lg_aloadS (i := 0) C rfl rfl dL_law_538 ?_
  refine lg_iload (i := 3) C rfl rfl dL_law_539 ?_
  refine lg_iconst C dL_law_540 ?_
  refine lg_iadd (x := ((i + 2 : Nat) : Int)) C (by unfold tv_w; omega) dL_law_541 ?_
  refine lg_iald C (lw_ix (by omega) (by omega)) dL_law_542 ?_
  refine lg_callM (y2 := mX12_can) (as := [tv_I ((xs (((i + 1 : Nat) : Int)).toNat).toInt), tv_I ((xs (((i + 2 : Nat) : Int)).toNat).toInt)]) (st := [tv_I r]) C rfl tw_X12_can tx_X12_can tl_L_60 rfl rfl (Nat.le_of_ble_eq_true rfl) dL_law_543 (tv_c1 (tv_inI _) (tv_c1 (tv_inI _) (fun v hv => by cases hv))) rfl ho.2 (S_X12_can l C.2.2.2.2.2.2.2.2.2.2.2.2.2 _ ((xs (((i + 1 : Nat) : Int)).toNat).toInt) ((xs (((i + 2 : Nat) : Int)).toNat).toInt) Dm) e2 (fun om => ?_)
  show lw_F p l e s m below meth c b Ec Em 546 _ [tv_I r, tv_I r] D1 D2
  exact lg_same (tgt := 1604) C rfl dL_law_546 (next D1 D2 ⟨oc, om⟩ hR2)
set_option maxRecDepth 20000 in
theorem lc_11 (C : lw_C p s m meth c b L xs Ec Em) (hL : L ≤ 3072) {R : td_D → td_D → Prop} (hs : ls_11 R) {i : Nat} (hi : i + 6 ≤ L) (ho : lw_ok Dc Dm) (hR : R Dc Dm) (next : ∀ Dc' Dm', lw_ok Dc' Dm' → R Dc' Dm' → lw_F p l e s m below meth c b Ec Em 1604 [tv_S 2, tv_R 1, tv_S 3, tv_I (i : Int)] [] Dc' Dm') : lw_F p l e s m below meth c b Ec Em 551 [tv_S 2, tv_R 1, tv_S 3, tv_I (i : Int)] [] Dc Dm := by
  obtain ⟨r, D1, D2, e1, e2, hR2⟩ := hs ((xs (((i + 1 : Nat) : Int)).toNat).toInt) ((xs (((i + 2 : Nat) : Int)).toNat).toInt) ((xs (((i + 3 : Nat) : Int)).toNat).toInt) Dc Dm (tv_inI _) (tv_inI _) (tv_inI _) ho hR
  refine lg_aloadR (r := 0) (i := 1) C rfl rfl dL_law_551 ?_
  refine lg_aloadS (i := 0) C rfl rfl dL_law_552 ?_
  refine lg_iload (i := 3) C rfl rfl dL_law_553 ?_
  refine lg_iconst C dL_law_554 ?_
  refine lg_iadd (x := ((i + 1 : Nat) : Int)) C (by unfold tv_w; omega) dL_law_555 ?_
  refine lg_iald C (lw_ix (by omega) (by omega)) dL_law_556 ?_
  refine lg_aloadS (i := 0) C rfl rfl dL_law_557 ?_
  refine lg_iload (i := 3) C rfl rfl dL_law_558 ?_
  refine lg_iconst C dL_law_559 ?_
  refine lg_iadd (x := ((i + 2 : Nat) : Int)) C (by unfold tv_w; omega) dL_law_560 ?_
  refine lg_iald C (lw_ix (by omega) (by omega)) dL_law_561 ?_
  refine lg_aloadS (i := 0) C rfl rfl dL_law_562 ?_
  refine lg_iload (i := 3) C rfl rfl dL_law_563 ?_
  refine lg_iconst C dL_law_564 ?_
  refine lg_iadd (x := ((i + 3 : Nat) : Int)) C (by unfold tv_w; omega) dL_law_565 ?_
  refine lg_iald C (lw_ix (by omega) (by omega)) dL_law_566 ?_
  refine lg_callC (y2 := mX11_round) (as := [tv_I ((xs (((i + 1 : Nat) : Int)).toNat).toInt), tv_I ((xs (((i + 2 : Nat) : Int)).toNat).toInt), tv_I ((xs (((i + 3 : Nat) : Int)).toNat).toInt)]) (st := []) (d := 0) (T := TX11) C rfl tw_X11_round tx_X11_round tl_L_61 rfl rfl (Nat.le_of_ble_eq_true rfl) (by decide) dL_law_567 (tv_c1 (tv_inI _) (tv_c1 (tv_inI _) (tv_c1 (tv_inI _) (fun v hv => by cases hv)))) ho.1 (S_X11_round l C.2.2.2.2.2.2.2.2.2.2.2.2.1 _ ((xs (((i + 1 : Nat) : Int)).toNat).toInt) ((xs (((i + 2 : Nat) : Int)).toNat).toInt) ((xs (((i + 3 : Nat) : Int)).toNat).toInt) Dc) e1 (fun oc => ?_)
  show lw_F p l e s m below meth c b Ec Em 570 _ [tv_I r] D1 Dm
  refine lg_aloadS (i := 2) C rfl rfl dL_law_570 ?_
  refine lg_aloadS (i := 0) C rfl rfl dL_law_571 ?_
  refine lg_iload (i := 3) C rfl rfl dL_law_572 ?_
  refine lg_iconst C dL_law_573 ?_
  refine lg_iadd (x := ((i + 1 : Nat) : Int)) C (by unfold tv_w; omega) dL_law_574 ?_
  refine lg_iald C (lw_ix (by omega) (by omega)) dL_law_575 ?_
  refine lg_aloadS (i := 0) C rfl rfl dL_law_576 ?_
  refine lg_iload (i := 3) C rfl rfl dL_law_577 ?_
  refine lg_iconst C dL_law_578 ?_
  refine lg_iadd (x := ((i + 2 : Nat) : Int)) C (by unfold tv_w; omega) dL_law_579 ?_
  refine lg_iald C (lw_ix (by omega) (by omega)) dL_law_580 ?_
  refine lg_aloadS (i := 0) C rfl rfl dL_law_581 ?_
  refine lg_iload (i := 3) C rfl rfl dL_law_582 ?_
  refine lg_iconst C dL_law_583 ?_
  refine lg_iadd (x := ((i + 3 : Nat) : Int)) C (by unfold tv_w; omega) dL_law_584 ?_
  refine lg_iald C (lw_ix (by omega) (by omega)) dL_law_585 ?_
  refine lg_callM (y2 := mX12_round) (as := [tv_I ((xs (((i + 1 : Nat) : Int)).toNat).toInt), tv_I ((xs (((i + 2 : Nat) : Int)).toNat).toInt), tv_I ((xs (((i + 3 : Nat) : Int)).toNat).toInt)]) (st := [tv_I r]) C rfl tw_X12_round tx_X12_round tl_L_64 rfl rfl (Nat.le_of_ble_eq_true rfl) dL_law_586 (tv_c1 (tv_inI _) (tv_c1 (tv_inI _) (tv_c1 (tv_inI _) (fun v hv => by cases hv)))) rfl ho.2 (S_X12_round l C.2.2.2.2.2.2.2.2.2.2.2.2.2 _ ((xs (((i + 1 : Nat) : Int)).toNat).toInt) ((xs (((i + 2 : Nat) : Int)).toNat).toInt) ((xs (((i + 3 : Nat) : Int)).toNat).toInt) Dm) e2 (fun om => ?_)
  show lw_F p l e s m below meth c b Ec Em 589 _ [tv_I r, tv_I r] D1 D2
  exact lg_same (tgt := 1604) C rfl dL_law_589 (next D1 D2 ⟨oc, om⟩ hR2)
set_option maxRecDepth 20000 in
theorem lc_12 (C : lw_C p s m meth c b L xs Ec Em) (hL : L ≤ 3072) {R : td_D → td_D → Prop} (hs : ls_12 R) {i : Nat} (hi : i + 6 ≤ L) (ho : lw_ok Dc Dm) (hR : R Dc Dm) (next : ∀ Dc' Dm', lw_ok Dc' Dm' → R Dc' Dm' → lw_F p l e s m below meth c b Ec Em 1604 [tv_S 2, tv_R 1, tv_S 3, tv_I (i : Int)] [] Dc' Dm') : lw_F p l e s m below meth c b Ec Em 594 [tv_S 2, tv_R 1, tv_S 3, tv_I (i : Int)] [] Dc Dm := by
  obtain ⟨r, D1, D2, e1, e2, hR2⟩ := hs ((xs (((i + 1 : Nat) : Int)).toNat).toInt) ((xs (((i + 2 : Nat) : Int)).toNat).toInt) Dc Dm (tv_inI _) (tv_inI _) ho hR
  refine lg_aloadR (r := 0) (i := 1) C rfl rfl dL_law_594 ?_
  refine lg_aloadS (i := 0) C rfl rfl dL_law_595 ?_
  refine lg_iload (i := 3) C rfl rfl dL_law_596 ?_
  refine lg_iconst C dL_law_597 ?_
  refine lg_iadd (x := ((i + 1 : Nat) : Int)) C (by unfold tv_w; omega) dL_law_598 ?_
  refine lg_iald C (lw_ix (by omega) (by omega)) dL_law_599 ?_
  refine lg_aloadS (i := 0) C rfl rfl dL_law_600 ?_
  refine lg_iload (i := 3) C rfl rfl dL_law_601 ?_
  refine lg_iconst C dL_law_602 ?_
  refine lg_iadd (x := ((i + 2 : Nat) : Int)) C (by unfold tv_w; omega) dL_law_603 ?_
  refine lg_iald C (lw_ix (by omega) (by omega)) dL_law_604 ?_
  refine lg_callC (y2 := mX11_without) (as := [tv_I ((xs (((i + 1 : Nat) : Int)).toNat).toInt), tv_I ((xs (((i + 2 : Nat) : Int)).toNat).toInt)]) (st := []) (d := 0) (T := TX11) C rfl tw_X11_without tx_X11_without tl_L_65 rfl rfl (Nat.le_of_ble_eq_true rfl) (by decide) dL_law_605 (tv_c1 (tv_inI _) (tv_c1 (tv_inI _) (fun v hv => by cases hv))) ho.1 (S_X11_without l C.2.2.2.2.2.2.2.2.2.2.2.2.1 _ ((xs (((i + 1 : Nat) : Int)).toNat).toInt) ((xs (((i + 2 : Nat) : Int)).toNat).toInt) Dc) e1 (fun oc => ?_)
  show lw_F p l e s m below meth c b Ec Em 608 _ [tv_I r] D1 Dm
  refine lg_aloadS (i := 2) C rfl rfl dL_law_608 ?_
  refine lg_aloadS (i := 0) C rfl rfl dL_law_609 ?_
  refine lg_iload (i := 3) C rfl rfl dL_law_610 ?_
  refine lg_iconst C dL_law_611 ?_
  refine lg_iadd (x := ((i + 1 : Nat) : Int)) C (by unfold tv_w; omega) dL_law_612 ?_
  refine lg_iald C (lw_ix (by omega) (by omega)) dL_law_613 ?_
  refine lg_aloadS (i := 0) C rfl rfl dL_law_614 ?_
  refine lg_iload (i := 3) C rfl rfl dL_law_615 ?_
  refine lg_iconst C dL_law_616 ?_
  refine lg_iadd (x := ((i + 2 : Nat) : Int)) C (by unfold tv_w; omega) dL_law_617 ?_
  refine lg_iald C (lw_ix (by omega) (by omega)) dL_law_618 ?_
  refine lg_callM (y2 := mX12_without) (as := [tv_I ((xs (((i + 1 : Nat) : Int)).toNat).toInt), tv_I ((xs (((i + 2 : Nat) : Int)).toNat).toInt)]) (st := [tv_I r]) C rfl tw_X12_without tx_X12_without tl_L_68 rfl rfl (Nat.le_of_ble_eq_true rfl) dL_law_619 (tv_c1 (tv_inI _) (tv_c1 (tv_inI _) (fun v hv => by cases hv))) rfl ho.2 (S_X12_without l C.2.2.2.2.2.2.2.2.2.2.2.2.2 _ ((xs (((i + 1 : Nat) : Int)).toNat).toInt) ((xs (((i + 2 : Nat) : Int)).toNat).toInt) Dm) e2 (fun om => ?_)
  show lw_F p l e s m below meth c b Ec Em 622 _ [tv_I r, tv_I r] D1 D2
  exact lg_same (tgt := 1604) C rfl dL_law_622 (next D1 D2 ⟨oc, om⟩ hR2)
set_option maxRecDepth 20000 in
theorem lc_13 (C : lw_C p s m meth c b L xs Ec Em) (hL : L ≤ 3072) {R : td_D → td_D → Prop} (hs : ls_13 R) {i : Nat} (hi : i + 6 ≤ L) (ho : lw_ok Dc Dm) (hR : R Dc Dm) (next : ∀ Dc' Dm', lw_ok Dc' Dm' → R Dc' Dm' → lw_F p l e s m below meth c b Ec Em 1604 [tv_S 2, tv_R 1, tv_S 3, tv_I (i : Int)] [] Dc' Dm') : lw_F p l e s m below meth c b Ec Em 627 [tv_S 2, tv_R 1, tv_S 3, tv_I (i : Int)] [] Dc Dm := by
  obtain ⟨r, D1, D2, e1, e2, hR2⟩ := hs ((xs (((i + 1 : Nat) : Int)).toNat).toInt) Dc Dm (tv_inI _) ho hR
  refine lg_aloadR (r := 0) (i := 1) C rfl rfl dL_law_627 ?_
  refine lg_aloadS (i := 0) C rfl rfl dL_law_628 ?_
  refine lg_iload (i := 3) C rfl rfl dL_law_629 ?_
  refine lg_iconst C dL_law_630 ?_
  refine lg_iadd (x := ((i + 1 : Nat) : Int)) C (by unfold tv_w; omega) dL_law_631 ?_
  refine lg_iald C (lw_ix (by omega) (by omega)) dL_law_632 ?_
  refine lg_callC (y2 := mX11_who) (as := [tv_I ((xs (((i + 1 : Nat) : Int)).toNat).toInt)]) (st := []) (d := 0) (T := TX11) C rfl tw_X11_who tx_X11_who tl_L_69 rfl rfl (Nat.le_of_ble_eq_true rfl) (by decide) dL_law_633 (tv_c1 (tv_inI _) (fun v hv => by cases hv)) ho.1 (S_X11_who l C.2.2.2.2.2.2.2.2.2.2.2.2.1 _ ((xs (((i + 1 : Nat) : Int)).toNat).toInt) Dc) e1 (fun oc => ?_)
  show lw_F p l e s m below meth c b Ec Em 636 _ [tv_I r] D1 Dm
  refine lg_aloadS (i := 2) C rfl rfl dL_law_636 ?_
  refine lg_aloadS (i := 0) C rfl rfl dL_law_637 ?_
  refine lg_iload (i := 3) C rfl rfl dL_law_638 ?_
  refine lg_iconst C dL_law_639 ?_
  refine lg_iadd (x := ((i + 1 : Nat) : Int)) C (by unfold tv_w; omega) dL_law_640 ?_
  refine lg_iald C (lw_ix (by omega) (by omega)) dL_law_641 ?_
  refine lg_callM (y2 := mX12_who) (as := [tv_I ((xs (((i + 1 : Nat) : Int)).toNat).toInt)]) (st := [tv_I r]) C rfl tw_X12_who tx_X12_who tl_L_72 rfl rfl (Nat.le_of_ble_eq_true rfl) dL_law_642 (tv_c1 (tv_inI _) (fun v hv => by cases hv)) rfl ho.2 (S_X12_who l C.2.2.2.2.2.2.2.2.2.2.2.2.2 _ ((xs (((i + 1 : Nat) : Int)).toNat).toInt) Dm) e2 (fun om => ?_)
  show lw_F p l e s m below meth c b Ec Em 645 _ [tv_I r, tv_I r] D1 D2
  exact lg_same (tgt := 1604) C rfl dL_law_645 (next D1 D2 ⟨oc, om⟩ hR2)
set_option maxRecDepth 20000 in
theorem lc_14 (C : lw_C p s m meth c b L xs Ec Em) (hL : L ≤ 3072) {R : td_D → td_D → Prop} (hs : ls_14 R) {i : Nat} (hi : i + 6 ≤ L) (ho : lw_ok Dc Dm) (hR : R Dc Dm) (next : ∀ Dc' Dm', lw_ok Dc' Dm' → R Dc' Dm' → lw_F p l e s m below meth c b Ec Em 1604 [tv_S 2, tv_R 1, tv_S 3, tv_I (i : Int)] [] Dc' Dm') : lw_F p l e s m below meth c b Ec Em 650 [tv_S 2, tv_R 1, tv_S 3, tv_I (i : Int)] [] Dc Dm := by
  obtain ⟨r, D1, D2, e1, e2, hR2⟩ := hs ((xs (((i + 1 : Nat) : Int)).toNat).toInt) Dc Dm (tv_inI _) ho hR
  refine lg_aloadR (r := 0) (i := 1) C rfl rfl dL_law_650 ?_
  refine lg_aloadS (i := 0) C rfl rfl dL_law_651 ?_
  refine lg_iload (i := 3) C rfl rfl dL_law_652 ?_
  refine lg_iconst C dL_law_653 ?_
  refine lg_iadd (x := ((i + 1 : Nat) : Int)) C (by unfold tv_w; omega) dL_law_654 ?_
  refine lg_iald C (lw_ix (by omega) (by omega)) dL_law_655 ?_
  refine lg_callC (y2 := mX11_stung) (as := [tv_I ((xs (((i + 1 : Nat) : Int)).toNat).toInt)]) (st := []) (d := 0) (T := TX11) C rfl tw_X11_stung tx_X11_stung tl_L_73 rfl rfl (Nat.le_of_ble_eq_true rfl) (by decide) dL_law_656 (tv_c1 (tv_inI _) (fun v hv => by cases hv)) ho.1 (S_X11_stung l C.2.2.2.2.2.2.2.2.2.2.2.2.1 _ ((xs (((i + 1 : Nat) : Int)).toNat).toInt) Dc) e1 (fun oc => ?_)
  show lw_F p l e s m below meth c b Ec Em 659 _ [tv_I r] D1 Dm
  refine lg_aloadS (i := 2) C rfl rfl dL_law_659 ?_
  refine lg_aloadS (i := 0) C rfl rfl dL_law_660 ?_
  refine lg_iload (i := 3) C rfl rfl dL_law_661 ?_
  refine lg_iconst C dL_law_662 ?_
  refine lg_iadd (x := ((i + 1 : Nat) : Int)) C (by unfold tv_w; omega) dL_law_663 ?_
  refine lg_iald C (lw_ix (by omega) (by omega)) dL_law_664 ?_
  refine lg_callM (y2 := mX12_stung) (as := [tv_I ((xs (((i + 1 : Nat) : Int)).toNat).toInt)]) (st := [tv_I r]) C rfl tw_X12_stung tx_X12_stung tl_L_76 rfl rfl (Nat.le_of_ble_eq_true rfl) dL_law_665 (tv_c1 (tv_inI _) (fun v hv => by cases hv)) rfl ho.2 (S_X12_stung l C.2.2.2.2.2.2.2.2.2.2.2.2.2 _ ((xs (((i + 1 : Nat) : Int)).toNat).toInt) Dm) e2 (fun om => ?_)
  show lw_F p l e s m below meth c b Ec Em 668 _ [tv_I r, tv_I r] D1 D2
  exact lg_same (tgt := 1604) C rfl dL_law_668 (next D1 D2 ⟨oc, om⟩ hR2)
set_option maxRecDepth 20000 in
theorem lc_15 (C : lw_C p s m meth c b L xs Ec Em) (hL : L ≤ 3072) {R : td_D → td_D → Prop} (hs : ls_15 R) {i : Nat} (hi : i + 6 ≤ L) (ho : lw_ok Dc Dm) (hR : R Dc Dm) (next : ∀ Dc' Dm', lw_ok Dc' Dm' → R Dc' Dm' → lw_F p l e s m below meth c b Ec Em 1604 [tv_S 2, tv_R 1, tv_S 3, tv_I (i : Int)] [] Dc' Dm') : lw_F p l e s m below meth c b Ec Em 673 [tv_S 2, tv_R 1, tv_S 3, tv_I (i : Int)] [] Dc Dm := by
  obtain ⟨r, D1, D2, e1, e2, hR2⟩ := hs ((xs (((i + 1 : Nat) : Int)).toNat).toInt) ((xs (((i + 2 : Nat) : Int)).toNat).toInt) Dc Dm (tv_inI _) (tv_inI _) ho hR
  refine lg_aloadR (r := 0) (i := 1) C rfl rfl dL_law_673 ?_
  refine lg_aloadS (i := 0) C rfl rfl dL_law_674 ?_
  refine lg_iload (i := 3) C rfl rfl dL_law_675 ?_
  refine lg_iconst C dL_law_676 ?_
  refine lg_iadd (x := ((i + 1 : Nat) : Int)) C (by unfold tv_w; omega) dL_law_677 ?_
  refine lg_iald C (lw_ix (by omega) (by omega)) dL_law_678 ?_
  refine lg_aloadS (i := 0) C rfl rfl dL_law_679 ?_
  refine lg_iload (i := 3) C rfl rfl dL_law_680 ?_
  refine lg_iconst C dL_law_681 ?_
  refine lg_iadd (x := ((i + 2 : Nat) : Int)) C (by unfold tv_w; omega) dL_law_682 ?_
  refine lg_iald C (lw_ix (by omega) (by omega)) dL_law_683 ?_
  refine lg_callC (y2 := mX11_way) (as := [tv_I ((xs (((i + 1 : Nat) : Int)).toNat).toInt), tv_I ((xs (((i + 2 : Nat) : Int)).toNat).toInt)]) (st := []) (d := 0) (T := TX11) C rfl tw_X11_way tx_X11_way tl_L_77 rfl rfl (Nat.le_of_ble_eq_true rfl) (by decide) dL_law_684 (tv_c1 (tv_inI _) (tv_c1 (tv_inI _) (fun v hv => by cases hv))) ho.1 (S_X11_way l C.2.2.2.2.2.2.2.2.2.2.2.2.1 _ ((xs (((i + 1 : Nat) : Int)).toNat).toInt) ((xs (((i + 2 : Nat) : Int)).toNat).toInt) Dc) e1 (fun oc => ?_)
  show lw_F p l e s m below meth c b Ec Em 687 _ [tv_I r] D1 Dm
  refine lg_aloadS (i := 2) C rfl rfl dL_law_687 ?_
  refine lg_aloadS (i := 0) C rfl rfl dL_law_688 ?_
  refine lg_iload (i := 3) C rfl rfl dL_law_689 ?_
  refine lg_iconst C dL_law_690 ?_
  refine lg_iadd (x := ((i + 1 : Nat) : Int)) C (by unfold tv_w; omega) dL_law_691 ?_
  refine lg_iald C (lw_ix (by omega) (by omega)) dL_law_692 ?_
  refine lg_aloadS (i := 0) C rfl rfl dL_law_693 ?_
  refine lg_iload (i := 3) C rfl rfl dL_law_694 ?_
  refine lg_iconst C dL_law_695 ?_
  refine lg_iadd (x := ((i + 2 : Nat) : Int)) C (by unfold tv_w; omega) dL_law_696 ?_
  refine lg_iald C (lw_ix (by omega) (by omega)) dL_law_697 ?_
  refine lg_callM (y2 := mX12_way) (as := [tv_I ((xs (((i + 1 : Nat) : Int)).toNat).toInt), tv_I ((xs (((i + 2 : Nat) : Int)).toNat).toInt)]) (st := [tv_I r]) C rfl tw_X12_way tx_X12_way tl_L_80 rfl rfl (Nat.le_of_ble_eq_true rfl) dL_law_698 (tv_c1 (tv_inI _) (tv_c1 (tv_inI _) (fun v hv => by cases hv))) rfl ho.2 (S_X12_way l C.2.2.2.2.2.2.2.2.2.2.2.2.2 _ ((xs (((i + 1 : Nat) : Int)).toNat).toInt) ((xs (((i + 2 : Nat) : Int)).toNat).toInt) Dm) e2 (fun om => ?_)
  show lw_F p l e s m below meth c b Ec Em 701 _ [tv_I r, tv_I r] D1 D2
  exact lg_same (tgt := 1604) C rfl dL_law_701 (next D1 D2 ⟨oc, om⟩ hR2)
set_option maxRecDepth 20000 in
theorem lc_16 (C : lw_C p s m meth c b L xs Ec Em) (hL : L ≤ 3072) {R : td_D → td_D → Prop} (hs : ls_16 R) {i : Nat} (hi : i + 6 ≤ L) (ho : lw_ok Dc Dm) (hR : R Dc Dm) (next : ∀ Dc' Dm', lw_ok Dc' Dm' → R Dc' Dm' → lw_F p l e s m below meth c b Ec Em 1604 [tv_S 2, tv_R 1, tv_S 3, tv_I (i : Int)] [] Dc' Dm') : lw_F p l e s m below meth c b Ec Em 706 [tv_S 2, tv_R 1, tv_S 3, tv_I (i : Int)] [] Dc Dm := by
  obtain ⟨r, D1, D2, e1, e2, hR2⟩ := hs ((xs (((i + 1 : Nat) : Int)).toNat).toInt) ((xs (((i + 2 : Nat) : Int)).toNat).toInt) ((xs (((i + 3 : Nat) : Int)).toNat).toInt) Dc Dm (tv_inI _) (tv_inI _) (tv_inI _) ho hR
  refine lg_aloadR (r := 0) (i := 1) C rfl rfl dL_law_706 ?_
  refine lg_aloadS (i := 0) C rfl rfl dL_law_707 ?_
  refine lg_iload (i := 3) C rfl rfl dL_law_708 ?_
  refine lg_iconst C dL_law_709 ?_
  refine lg_iadd (x := ((i + 1 : Nat) : Int)) C (by unfold tv_w; omega) dL_law_710 ?_
  refine lg_iald C (lw_ix (by omega) (by omega)) dL_law_711 ?_
  refine lg_aloadS (i := 0) C rfl rfl dL_law_712 ?_
  refine lg_iload (i := 3) C rfl rfl dL_law_713 ?_
  refine lg_iconst C dL_law_714 ?_
  refine lg_iadd (x := ((i + 2 : Nat) : Int)) C (by unfold tv_w; omega) dL_law_715 ?_
  refine lg_iald C (lw_ix (by omega) (by omega)) dL_law_716 ?_
  refine lg_aloadS (i := 0) C rfl rfl dL_law_717 ?_
  refine lg_iload (i := 3) C rfl rfl dL_law_718 ?_
  refine lg_iconst C dL_law_719 ?_
  refine lg_iadd (x := ((i + 3 : Nat) : Int)) C (by unfold tv_w; omega) dL_law_720 ?_
  refine lg_iald C (lw_ix (by omega) (by omega)) dL_law_721 ?_
  refine lg_callC (y2 := mX11_least) (as := [tv_I ((xs (((i + 1 : Nat) : Int)).toNat).toInt), tv_I ((xs (((i + 2 : Nat) : Int)).toNat).toInt), tv_I ((xs (((i + 3 : Nat) : Int)).toNat).toInt)]) (st := []) (d := 0) (T := TX11) C rfl tw_X11_least tx_X11_least tl_L_81 rfl rfl (Nat.le_of_ble_eq_true rfl) (by decide) dL_law_722 (tv_c1 (tv_inI _) (tv_c1 (tv_inI _) (tv_c1 (tv_inI _) (fun v hv => by cases hv)))) ho.1 (S_X11_least l C.2.2.2.2.2.2.2.2.2.2.2.2.1 _ ((xs (((i + 1 : Nat) : Int)).toNat).toInt) ((xs (((i + 2 : Nat) : Int)).toNat).toInt) ((xs (((i + 3 : Nat) : Int)).toNat).toInt) Dc) e1 (fun oc => ?_)
  show lw_F p l e s m below meth c b Ec Em 725 _ [tv_I r] D1 Dm
  refine lg_aloadS (i := 2) C rfl rfl dL_law_725 ?_
  refine lg_aloadS (i := 0) C rfl rfl dL_law_726 ?_
  refine lg_iload (i := 3) C rfl rfl dL_law_727 ?_
  refine lg_iconst C dL_law_728 ?_
  refine lg_iadd (x := ((i + 1 : Nat) : Int)) C (by unfold tv_w; omega) dL_law_729 ?_
  refine lg_iald C (lw_ix (by omega) (by omega)) dL_law_730 ?_
  refine lg_aloadS (i := 0) C rfl rfl dL_law_731 ?_
  refine lg_iload (i := 3) C rfl rfl dL_law_732 ?_
  refine lg_iconst C dL_law_733 ?_
  refine lg_iadd (x := ((i + 2 : Nat) : Int)) C (by unfold tv_w; omega) dL_law_734 ?_
  refine lg_iald C (lw_ix (by omega) (by omega)) dL_law_735 ?_
  refine lg_aloadS (i := 0) C rfl rfl dL_law_736 ?_
  refine lg_iload (i := 3) C rfl rfl dL_law_737 ?_
  refine lg_iconst C dL_law_738 ?_
  refine lg_iadd (x := ((i + 3 : Nat) : Int)) C (by unfold tv_w; omega) dL_law_739 ?_
  refine lg_iald C (lw_ix (by omega) (by omega)) dL_law_740 ?_
  refine lg_callM (y2 := mX12_least) (as := [tv_I ((xs (((i + 1 : Nat) : Int)).toNat).toInt), tv_I ((xs (((i + 2 : Nat) : Int)).toNat).toInt), tv_I ((xs (((i + 3 : Nat) : Int)).toNat).toInt)]) (st := [tv_I r]) C rfl tw_X12_least tx_X12_least tl_L_84 rfl rfl (Nat.le_of_ble_eq_true rfl) dL_law_741 (tv_c1 (tv_inI _) (tv_c1 (tv_inI _) (tv_c1 (tv_inI _) (fun v hv => by cases hv)))) rfl ho.2 (S_X12_least l C.2.2.2.2.2.2.2.2.2.2.2.2.2 _ ((xs (((i + 1 : Nat) : Int)).toNat).toInt) ((xs (((i + 2 : Nat) : Int)).toNat).toInt) ((xs (((i + 3 : Nat) : Int)).toNat).toInt) Dm) e2 (fun om => ?_)
  show lw_F p l e s m below meth c b Ec Em 744 _ [tv_I r, tv_I r] D1 D2
  exact lg_same (tgt := 1604) C rfl dL_law_744 (next D1 D2 ⟨oc, om⟩ hR2)
set_option maxRecDepth 20000 in
theorem lc_17 (C : lw_C p s m meth c b L xs Ec Em) (hL : L ≤ 3072) {R : td_D → td_D → Prop} (hs : ls_17 R) {i : Nat} (hi : i + 6 ≤ L) (ho : lw_ok Dc Dm) (hR : R Dc Dm) (next : ∀ Dc' Dm', lw_ok Dc' Dm' → R Dc' Dm' → lw_F p l e s m below meth c b Ec Em 1604 [tv_S 2, tv_R 1, tv_S 3, tv_I (i : Int)] [] Dc' Dm') : lw_F p l e s m below meth c b Ec Em 749 [tv_S 2, tv_R 1, tv_S 3, tv_I (i : Int)] [] Dc Dm := by
  obtain ⟨r, D1, D2, e1, e2, hR2⟩ := hs ((xs (((i + 1 : Nat) : Int)).toNat).toInt) ((xs (((i + 2 : Nat) : Int)).toNat).toInt) ((xs (((i + 3 : Nat) : Int)).toNat).toInt) Dc Dm (tv_inI _) (tv_inI _) (tv_inI _) ho hR
  refine lg_aloadR (r := 0) (i := 1) C rfl rfl dL_law_749 ?_
  refine lg_aloadS (i := 0) C rfl rfl dL_law_750 ?_
  refine lg_iload (i := 3) C rfl rfl dL_law_751 ?_
  refine lg_iconst C dL_law_752 ?_
  refine lg_iadd (x := ((i + 1 : Nat) : Int)) C (by unfold tv_w; omega) dL_law_753 ?_
  refine lg_iald C (lw_ix (by omega) (by omega)) dL_law_754 ?_
  refine lg_aloadS (i := 0) C rfl rfl dL_law_755 ?_
  refine lg_iload (i := 3) C rfl rfl dL_law_756 ?_
  refine lg_iconst C dL_law_757 ?_
  refine lg_iadd (x := ((i + 2 : Nat) : Int)) C (by unfold tv_w; omega) dL_law_758 ?_
  refine lg_iald C (lw_ix (by omega) (by omega)) dL_law_759 ?_
  refine lg_aloadS (i := 0) C rfl rfl dL_law_760 ?_
  refine lg_iload (i := 3) C rfl rfl dL_law_761 ?_
  refine lg_iconst C dL_law_762 ?_
  refine lg_iadd (x := ((i + 3 : Nat) : Int)) C (by unfold tv_w; omega) dL_law_763 ?_
  refine lg_iald C (lw_ix (by omega) (by omega)) dL_law_764 ?_
  refine lg_callC (y2 := mX11_set) (as := [tv_I ((xs (((i + 1 : Nat) : Int)).toNat).toInt), tv_I ((xs (((i + 2 : Nat) : Int)).toNat).toInt), tv_I ((xs (((i + 3 : Nat) : Int)).toNat).toInt)]) (st := []) (d := 0) (T := TX11) C rfl tw_X11_set tx_X11_set tl_L_85 rfl rfl (Nat.le_of_ble_eq_true rfl) (by decide) dL_law_765 (tv_c1 (tv_inI _) (tv_c1 (tv_inI _) (tv_c1 (tv_inI _) (fun v hv => by cases hv)))) ho.1 (S_X11_set l C.2.2.2.2.2.2.2.2.2.2.2.2.1 _ ((xs (((i + 1 : Nat) : Int)).toNat).toInt) ((xs (((i + 2 : Nat) : Int)).toNat).toInt) ((xs (((i + 3 : Nat) : Int)).toNat).toInt) Dc) e1 (fun oc => ?_)
  show lw_F p l e s m below meth c b Ec Em 768 _ [tv_I r] D1 Dm
  refine lg_aloadS (i := 2) C rfl rfl dL_law_768 ?_
  refine lg_aloadS (i := 0) C rfl rfl dL_law_769 ?_
  refine lg_iload (i := 3) C rfl rfl dL_law_770 ?_
  refine lg_iconst C dL_law_771 ?_
  refine lg_iadd (x := ((i + 1 : Nat) : Int)) C (by unfold tv_w; omega) dL_law_772 ?_
  refine lg_iald C (lw_ix (by omega) (by omega)) dL_law_773 ?_
  refine lg_aloadS (i := 0) C rfl rfl dL_law_774 ?_
  refine lg_iload (i := 3) C rfl rfl dL_law_775 ?_
  refine lg_iconst C dL_law_776 ?_
  refine lg_iadd (x := ((i + 2 : Nat) : Int)) C (by unfold tv_w; omega) dL_law_777 ?_
  refine lg_iald C (lw_ix (by omega) (by omega)) dL_law_778 ?_
  refine lg_aloadS (i := 0) C rfl rfl dL_law_779 ?_
  refine lg_iload (i := 3) C rfl rfl dL_law_780 ?_
  refine lg_iconst C dL_law_781 ?_
  refine lg_iadd (x := ((i + 3 : Nat) : Int)) C (by unfold tv_w; omega) dL_law_782 ?_
  refine lg_iald C (lw_ix (by omega) (by omega)) dL_law_783 ?_
  refine lg_callM (y2 := mX12_set) (as := [tv_I ((xs (((i + 1 : Nat) : Int)).toNat).toInt), tv_I ((xs (((i + 2 : Nat) : Int)).toNat).toInt), tv_I ((xs (((i + 3 : Nat) : Int)).toNat).toInt)]) (st := [tv_I r]) C rfl tw_X12_set tx_X12_set tl_L_88 rfl rfl (Nat.le_of_ble_eq_true rfl) dL_law_784 (tv_c1 (tv_inI _) (tv_c1 (tv_inI _) (tv_c1 (tv_inI _) (fun v hv => by cases hv)))) rfl ho.2 (S_X12_set l C.2.2.2.2.2.2.2.2.2.2.2.2.2 _ ((xs (((i + 1 : Nat) : Int)).toNat).toInt) ((xs (((i + 2 : Nat) : Int)).toNat).toInt) ((xs (((i + 3 : Nat) : Int)).toNat).toInt) Dm) e2 (fun om => ?_)
  show lw_F p l e s m below meth c b Ec Em 787 _ [tv_I r, tv_I r] D1 D2
  exact lg_same (tgt := 1604) C rfl dL_law_787 (next D1 D2 ⟨oc, om⟩ hR2)
set_option maxRecDepth 20000 in
theorem lc_18 (C : lw_C p s m meth c b L xs Ec Em) (hL : L ≤ 3072) {R : td_D → td_D → Prop} (hs : ls_18 R) {i : Nat} (hi : i + 6 ≤ L) (ho : lw_ok Dc Dm) (hR : R Dc Dm) (next : ∀ Dc' Dm', lw_ok Dc' Dm' → R Dc' Dm' → lw_F p l e s m below meth c b Ec Em 1604 [tv_S 2, tv_R 1, tv_S 3, tv_I (i : Int)] [] Dc' Dm') : lw_F p l e s m below meth c b Ec Em 792 [tv_S 2, tv_R 1, tv_S 3, tv_I (i : Int)] [] Dc Dm := by
  obtain ⟨r, D1, D2, e1, e2, hR2⟩ := hs ((xs (((i + 1 : Nat) : Int)).toNat).toInt) ((xs (((i + 2 : Nat) : Int)).toNat).toInt) ((xs (((i + 3 : Nat) : Int)).toNat).toInt) Dc Dm (tv_inI _) (tv_inI _) (tv_inI _) ho hR
  refine lg_aloadR (r := 0) (i := 1) C rfl rfl dL_law_792 ?_
  refine lg_aloadS (i := 0) C rfl rfl dL_law_793 ?_
  refine lg_iload (i := 3) C rfl rfl dL_law_794 ?_
  refine lg_iconst C dL_law_795 ?_
  refine lg_iadd (x := ((i + 1 : Nat) : Int)) C (by unfold tv_w; omega) dL_law_796 ?_
  refine lg_iald C (lw_ix (by omega) (by omega)) dL_law_797 ?_
  refine lg_aloadS (i := 0) C rfl rfl dL_law_798 ?_
  refine lg_iload (i := 3) C rfl rfl dL_law_799 ?_
  refine lg_iconst C dL_law_800 ?_
  refine lg_iadd (x := ((i + 2 : Nat) : Int)) C (by unfold tv_w; omega) dL_law_801 ?_
  refine lg_iald C (lw_ix (by omega) (by omega)) dL_law_802 ?_
  refine lg_aloadS (i := 0) C rfl rfl dL_law_803 ?_
  refine lg_iload (i := 3) C rfl rfl dL_law_804 ?_
  refine lg_iconst C dL_law_805 ?_
  refine lg_iadd (x := ((i + 3 : Nat) : Int)) C (by unfold tv_w; omega) dL_law_806 ?_
  refine lg_iald C (lw_ix (by omega) (by omega)) dL_law_807 ?_
  refine lg_callC (y2 := mX11_tries) (as := [tv_I ((xs (((i + 1 : Nat) : Int)).toNat).toInt), tv_I ((xs (((i + 2 : Nat) : Int)).toNat).toInt), tv_I ((xs (((i + 3 : Nat) : Int)).toNat).toInt)]) (st := []) (d := 0) (T := TX11) C rfl tw_X11_tries tx_X11_tries tl_L_89 rfl rfl (Nat.le_of_ble_eq_true rfl) (by decide) dL_law_808 (tv_c1 (tv_inI _) (tv_c1 (tv_inI _) (tv_c1 (tv_inI _) (fun v hv => by cases hv)))) ho.1 (S_X11_tries l C.2.2.2.2.2.2.2.2.2.2.2.2.1 _ ((xs (((i + 1 : Nat) : Int)).toNat).toInt) ((xs (((i + 2 : Nat) : Int)).toNat).toInt) ((xs (((i + 3 : Nat) : Int)).toNat).toInt) Dc) e1 (fun oc => ?_)
  show lw_F p l e s m below meth c b Ec Em 811 _ [tv_I r] D1 Dm
  refine lg_aloadS (i := 2) C rfl rfl dL_law_811 ?_
  refine lg_aloadS (i := 0) C rfl rfl dL_law_812 ?_
  refine lg_iload (i := 3) C rfl rfl dL_law_813 ?_
  refine lg_iconst C dL_law_814 ?_
  refine lg_iadd (x := ((i + 1 : Nat) : Int)) C (by unfold tv_w; omega) dL_law_815 ?_
  refine lg_iald C (lw_ix (by omega) (by omega)) dL_law_816 ?_
  refine lg_aloadS (i := 0) C rfl rfl dL_law_817 ?_
  refine lg_iload (i := 3) C rfl rfl dL_law_818 ?_
  refine lg_iconst C dL_law_819 ?_
  refine lg_iadd (x := ((i + 2 : Nat) : Int)) C (by unfold tv_w; omega) dL_law_820 ?_
  refine lg_iald C (lw_ix (by omega) (by omega)) dL_law_821 ?_
  refine lg_aloadS (i := 0) C rfl rfl dL_law_822 ?_
  refine lg_iload (i := 3) C rfl rfl dL_law_823 ?_
  refine lg_iconst C dL_law_824 ?_
  refine lg_iadd (x := ((i + 3 : Nat) : Int)) C (by unfold tv_w; omega) dL_law_825 ?_
  refine lg_iald C (lw_ix (by omega) (by omega)) dL_law_826 ?_
  refine lg_callM (y2 := mX12_tries) (as := [tv_I ((xs (((i + 1 : Nat) : Int)).toNat).toInt), tv_I ((xs (((i + 2 : Nat) : Int)).toNat).toInt), tv_I ((xs (((i + 3 : Nat) : Int)).toNat).toInt)]) (st := [tv_I r]) C rfl tw_X12_tries tx_X12_tries tl_L_92 rfl rfl (Nat.le_of_ble_eq_true rfl) dL_law_827 (tv_c1 (tv_inI _) (tv_c1 (tv_inI _) (tv_c1 (tv_inI _) (fun v hv => by cases hv)))) rfl ho.2 (S_X12_tries l C.2.2.2.2.2.2.2.2.2.2.2.2.2 _ ((xs (((i + 1 : Nat) : Int)).toNat).toInt) ((xs (((i + 2 : Nat) : Int)).toNat).toInt) ((xs (((i + 3 : Nat) : Int)).toNat).toInt) Dm) e2 (fun om => ?_)
  show lw_F p l e s m below meth c b Ec Em 830 _ [tv_I r, tv_I r] D1 D2
  exact lg_same (tgt := 1604) C rfl dL_law_830 (next D1 D2 ⟨oc, om⟩ hR2)
set_option maxRecDepth 20000 in
theorem lc_19 (C : lw_C p s m meth c b L xs Ec Em) (hL : L ≤ 3072) {R : td_D → td_D → Prop} (hs : ls_19 R) {i : Nat} (hi : i + 6 ≤ L) (ho : lw_ok Dc Dm) (hR : R Dc Dm) (next : ∀ Dc' Dm', lw_ok Dc' Dm' → R Dc' Dm' → lw_F p l e s m below meth c b Ec Em 1604 [tv_S 2, tv_R 1, tv_S 3, tv_I (i : Int)] [] Dc' Dm') : lw_F p l e s m below meth c b Ec Em 835 [tv_S 2, tv_R 1, tv_S 3, tv_I (i : Int)] [] Dc Dm := by
  obtain ⟨r, D1, D2, e1, e2, hR2⟩ := hs ((xs (((i + 1 : Nat) : Int)).toNat).toInt) ((xs (((i + 2 : Nat) : Int)).toNat).toInt) Dc Dm (tv_inI _) (tv_inI _) ho hR
  refine lg_aloadR (r := 0) (i := 1) C rfl rfl dL_law_835 ?_
  refine lg_aloadS (i := 0) C rfl rfl dL_law_836 ?_
  refine lg_iload (i := 3) C rfl rfl dL_law_837 ?_
  refine lg_iconst C dL_law_838 ?_
  refine lg_iadd (x := ((i + 1 : Nat) : Int)) C (by unfold tv_w; omega) dL_law_839 ?_
  refine lg_iald C (lw_ix (by omega) (by omega)) dL_law_840 ?_
  refine lg_aloadS (i := 0) C rfl rfl dL_law_841 ?_
  refine lg_iload (i := 3) C rfl rfl dL_law_842 ?_
  refine lg_iconst C dL_law_843 ?_
  refine lg_iadd (x := ((i + 2 : Nat) : Int)) C (by unfold tv_w; omega) dL_law_844 ?_
  refine lg_iald C (lw_ix (by omega) (by omega)) dL_law_845 ?_
  refine lg_callC (y2 := mX11_next) (as := [tv_I ((xs (((i + 1 : Nat) : Int)).toNat).toInt), tv_I ((xs (((i + 2 : Nat) : Int)).toNat).toInt)]) (st := []) (d := 0) (T := TX11) C rfl tw_X11_next tx_X11_next tl_L_93 rfl rfl (Nat.le_of_ble_eq_true rfl) (by decide) dL_law_846 (tv_c1 (tv_inI _) (tv_c1 (tv_inI _) (fun v hv => by cases hv))) ho.1 (S_X11_next l C.2.2.2.2.2.2.2.2.2.2.2.2.1 _ ((xs (((i + 1 : Nat) : Int)).toNat).toInt) ((xs (((i + 2 : Nat) : Int)).toNat).toInt) Dc) e1 (fun oc => ?_)
  show lw_F p l e s m below meth c b Ec Em 849 _ [tv_I r] D1 Dm
  refine lg_aloadS (i := 2) C rfl rfl dL_law_849 ?_
  refine lg_aloadS (i := 0) C rfl rfl dL_law_850 ?_
  refine lg_iload (i := 3) C rfl rfl dL_law_851 ?_
  refine lg_iconst C dL_law_852 ?_
  refine lg_iadd (x := ((i + 1 : Nat) : Int)) C (by unfold tv_w; omega) dL_law_853 ?_
  refine lg_iald C (lw_ix (by omega) (by omega)) dL_law_854 ?_
  refine lg_aloadS (i := 0) C rfl rfl dL_law_855 ?_
  refine lg_iload (i := 3) C rfl rfl dL_law_856 ?_
  refine lg_iconst C dL_law_857 ?_
  refine lg_iadd (x := ((i + 2 : Nat) : Int)) C (by unfold tv_w; omega) dL_law_858 ?_
  refine lg_iald C (lw_ix (by omega) (by omega)) dL_law_859 ?_
  refine lg_callM (y2 := mX12_next) (as := [tv_I ((xs (((i + 1 : Nat) : Int)).toNat).toInt), tv_I ((xs (((i + 2 : Nat) : Int)).toNat).toInt)]) (st := [tv_I r]) C rfl tw_X12_next tx_X12_next tl_L_96 rfl rfl (Nat.le_of_ble_eq_true rfl) dL_law_860 (tv_c1 (tv_inI _) (tv_c1 (tv_inI _) (fun v hv => by cases hv))) rfl ho.2 (S_X12_next l C.2.2.2.2.2.2.2.2.2.2.2.2.2 _ ((xs (((i + 1 : Nat) : Int)).toNat).toInt) ((xs (((i + 2 : Nat) : Int)).toNat).toInt) Dm) e2 (fun om => ?_)
  show lw_F p l e s m below meth c b Ec Em 863 _ [tv_I r, tv_I r] D1 D2
  exact lg_same (tgt := 1604) C rfl dL_law_863 (next D1 D2 ⟨oc, om⟩ hR2)
set_option maxRecDepth 20000 in
theorem lc_20 (C : lw_C p s m meth c b L xs Ec Em) (hL : L ≤ 3072) {R : td_D → td_D → Prop} (hs : ls_20 R) {i : Nat} (hi : i + 6 ≤ L) (ho : lw_ok Dc Dm) (hR : R Dc Dm) (next : ∀ Dc' Dm', lw_ok Dc' Dm' → R Dc' Dm' → lw_F p l e s m below meth c b Ec Em 1604 [tv_S 2, tv_R 1, tv_S 3, tv_I (i : Int)] [] Dc' Dm') : lw_F p l e s m below meth c b Ec Em 868 [tv_S 2, tv_R 1, tv_S 3, tv_I (i : Int)] [] Dc Dm := by
  obtain ⟨r, D1, D2, e1, e2, hR2⟩ := hs ((xs (((i + 1 : Nat) : Int)).toNat).toInt) Dc Dm (tv_inI _) ho hR
  refine lg_aloadR (r := 0) (i := 1) C rfl rfl dL_law_868 ?_
  refine lg_aloadS (i := 0) C rfl rfl dL_law_869 ?_
  refine lg_iload (i := 3) C rfl rfl dL_law_870 ?_
  refine lg_iconst C dL_law_871 ?_
  refine lg_iadd (x := ((i + 1 : Nat) : Int)) C (by unfold tv_w; omega) dL_law_872 ?_
  refine lg_iald C (lw_ix (by omega) (by omega)) dL_law_873 ?_
  refine lg_callC (y2 := mX11_leave) (as := [tv_I ((xs (((i + 1 : Nat) : Int)).toNat).toInt)]) (st := []) (d := 0) (T := TX11) C rfl tw_X11_leave tx_X11_leave tl_L_97 rfl rfl (Nat.le_of_ble_eq_true rfl) (by decide) dL_law_874 (tv_c1 (tv_inI _) (fun v hv => by cases hv)) ho.1 (S_X11_leave l C.2.2.2.2.2.2.2.2.2.2.2.2.1 _ ((xs (((i + 1 : Nat) : Int)).toNat).toInt) Dc) e1 (fun oc => ?_)
  show lw_F p l e s m below meth c b Ec Em 877 _ [tv_I r] D1 Dm
  refine lg_aloadS (i := 2) C rfl rfl dL_law_877 ?_
  refine lg_aloadS (i := 0) C rfl rfl dL_law_878 ?_
  refine lg_iload (i := 3) C rfl rfl dL_law_879 ?_
  refine lg_iconst C dL_law_880 ?_
  refine lg_iadd (x := ((i + 1 : Nat) : Int)) C (by unfold tv_w; omega) dL_law_881 ?_
  refine lg_iald C (lw_ix (by omega) (by omega)) dL_law_882 ?_
  refine lg_callM (y2 := mX12_leave) (as := [tv_I ((xs (((i + 1 : Nat) : Int)).toNat).toInt)]) (st := [tv_I r]) C rfl tw_X12_leave tx_X12_leave tl_L_100 rfl rfl (Nat.le_of_ble_eq_true rfl) dL_law_883 (tv_c1 (tv_inI _) (fun v hv => by cases hv)) rfl ho.2 (S_X12_leave l C.2.2.2.2.2.2.2.2.2.2.2.2.2 _ ((xs (((i + 1 : Nat) : Int)).toNat).toInt) Dm) e2 (fun om => ?_)
  show lw_F p l e s m below meth c b Ec Em 886 _ [tv_I r, tv_I r] D1 D2
  exact lg_same (tgt := 1604) C rfl dL_law_886 (next D1 D2 ⟨oc, om⟩ hR2)
set_option maxRecDepth 20000 in
theorem lc_21 (C : lw_C p s m meth c b L xs Ec Em) (hL : L ≤ 3072) {R : td_D → td_D → Prop} (hs : ls_21 R) {i : Nat} (hi : i + 6 ≤ L) (ho : lw_ok Dc Dm) (hR : R Dc Dm) (next : ∀ Dc' Dm', lw_ok Dc' Dm' → R Dc' Dm' → lw_F p l e s m below meth c b Ec Em 1604 [tv_S 2, tv_R 1, tv_S 3, tv_I (i : Int)] [] Dc' Dm') : lw_F p l e s m below meth c b Ec Em 891 [tv_S 2, tv_R 1, tv_S 3, tv_I (i : Int)] [] Dc Dm := by
  obtain ⟨r, D1, D2, e1, e2, hR2⟩ := hs ((xs (((i + 1 : Nat) : Int)).toNat).toInt) Dc Dm (tv_inI _) ho hR
  refine lg_aloadR (r := 0) (i := 1) C rfl rfl dL_law_891 ?_
  refine lg_aloadS (i := 0) C rfl rfl dL_law_892 ?_
  refine lg_iload (i := 3) C rfl rfl dL_law_893 ?_
  refine lg_iconst C dL_law_894 ?_
  refine lg_iadd (x := ((i + 1 : Nat) : Int)) C (by unfold tv_w; omega) dL_law_895 ?_
  refine lg_iald C (lw_ix (by omega) (by omega)) dL_law_896 ?_
  refine lg_callC (y2 := mX11_judge) (as := [tv_I ((xs (((i + 1 : Nat) : Int)).toNat).toInt)]) (st := []) (d := 0) (T := TX11) C rfl tw_X11_judge tx_X11_judge tl_L_101 rfl rfl (Nat.le_of_ble_eq_true rfl) (by decide) dL_law_897 (tv_c1 (tv_inI _) (fun v hv => by cases hv)) ho.1 (S_X11_judge l C.2.2.2.2.2.2.2.2.2.2.2.2.1 _ ((xs (((i + 1 : Nat) : Int)).toNat).toInt) Dc) e1 (fun oc => ?_)
  show lw_F p l e s m below meth c b Ec Em 900 _ [tv_I r] D1 Dm
  refine lg_aloadS (i := 2) C rfl rfl dL_law_900 ?_
  refine lg_aloadS (i := 0) C rfl rfl dL_law_901 ?_
  refine lg_iload (i := 3) C rfl rfl dL_law_902 ?_
  refine lg_iconst C dL_law_903 ?_
  refine lg_iadd (x := ((i + 1 : Nat) : Int)) C (by unfold tv_w; omega) dL_law_904 ?_
  refine lg_iald C (lw_ix (by omega) (by omega)) dL_law_905 ?_
  refine lg_callM (y2 := mX12_judge) (as := [tv_I ((xs (((i + 1 : Nat) : Int)).toNat).toInt)]) (st := [tv_I r]) C rfl tw_X12_judge tx_X12_judge tl_L_104 rfl rfl (Nat.le_of_ble_eq_true rfl) dL_law_906 (tv_c1 (tv_inI _) (fun v hv => by cases hv)) rfl ho.2 (S_X12_judge l C.2.2.2.2.2.2.2.2.2.2.2.2.2 _ ((xs (((i + 1 : Nat) : Int)).toNat).toInt) Dm) e2 (fun om => ?_)
  show lw_F p l e s m below meth c b Ec Em 909 _ [tv_I r, tv_I r] D1 D2
  exact lg_same (tgt := 1604) C rfl dL_law_909 (next D1 D2 ⟨oc, om⟩ hR2)
set_option maxRecDepth 20000 in
theorem lc_22 (C : lw_C p s m meth c b L xs Ec Em) (hL : L ≤ 3072) {R : td_D → td_D → Prop} (hs : ls_22 R) {i : Nat} (hi : i + 6 ≤ L) (ho : lw_ok Dc Dm) (hR : R Dc Dm) (next : ∀ Dc' Dm', lw_ok Dc' Dm' → R Dc' Dm' → lw_F p l e s m below meth c b Ec Em 1604 [tv_S 2, tv_R 1, tv_S 3, tv_I (i : Int)] [] Dc' Dm') : lw_F p l e s m below meth c b Ec Em 914 [tv_S 2, tv_R 1, tv_S 3, tv_I (i : Int)] [] Dc Dm := by
  obtain ⟨r, D1, D2, e1, e2, hR2⟩ := hs ((xs (((i + 1 : Nat) : Int)).toNat).toInt) ((xs (((i + 2 : Nat) : Int)).toNat).toInt) Dc Dm (tv_inI _) (tv_inI _) ho hR
  refine lg_aloadR (r := 0) (i := 1) C rfl rfl dL_law_914 ?_
  refine lg_aloadS (i := 0) C rfl rfl dL_law_915 ?_
  refine lg_iload (i := 3) C rfl rfl dL_law_916 ?_
  refine lg_iconst C dL_law_917 ?_
  refine lg_iadd (x := ((i + 1 : Nat) : Int)) C (by unfold tv_w; omega) dL_law_918 ?_
  refine lg_iald C (lw_ix (by omega) (by omega)) dL_law_919 ?_
  refine lg_aloadS (i := 0) C rfl rfl dL_law_920 ?_
  refine lg_iload (i := 3) C rfl rfl dL_law_921 ?_
  refine lg_iconst C dL_law_922 ?_
  refine lg_iadd (x := ((i + 2 : Nat) : Int)) C (by unfold tv_w; omega) dL_law_923 ?_
  refine lg_iald C (lw_ix (by omega) (by omega)) dL_law_924 ?_
  refine lg_callC (y2 := mX11_from) (as := [tv_I ((xs (((i + 1 : Nat) : Int)).toNat).toInt), tv_I ((xs (((i + 2 : Nat) : Int)).toNat).toInt)]) (st := []) (d := 0) (T := TX11) C rfl tw_X11_from tx_X11_from tl_L_105 rfl rfl (Nat.le_of_ble_eq_true rfl) (by decide) dL_law_925 (tv_c1 (tv_inI _) (tv_c1 (tv_inI _) (fun v hv => by cases hv))) ho.1 (S_X11_from l C.2.2.2.2.2.2.2.2.2.2.2.2.1 _ ((xs (((i + 1 : Nat) : Int)).toNat).toInt) ((xs (((i + 2 : Nat) : Int)).toNat).toInt) Dc) e1 (fun oc => ?_)
  show lw_F p l e s m below meth c b Ec Em 928 _ [tv_I r] D1 Dm
  refine lg_aloadS (i := 2) C rfl rfl dL_law_928 ?_
  refine lg_aloadS (i := 0) C rfl rfl dL_law_929 ?_
  refine lg_iload (i := 3) C rfl rfl dL_law_930 ?_
  refine lg_iconst C dL_law_931 ?_
  refine lg_iadd (x := ((i + 1 : Nat) : Int)) C (by unfold tv_w; omega) dL_law_932 ?_
  refine lg_iald C (lw_ix (by omega) (by omega)) dL_law_933 ?_
  refine lg_aloadS (i := 0) C rfl rfl dL_law_934 ?_
  refine lg_iload (i := 3) C rfl rfl dL_law_935 ?_
  refine lg_iconst C dL_law_936 ?_
  refine lg_iadd (x := ((i + 2 : Nat) : Int)) C (by unfold tv_w; omega) dL_law_937 ?_
  refine lg_iald C (lw_ix (by omega) (by omega)) dL_law_938 ?_
  refine lg_callM (y2 := mX12_from) (as := [tv_I ((xs (((i + 1 : Nat) : Int)).toNat).toInt), tv_I ((xs (((i + 2 : Nat) : Int)).toNat).toInt)]) (st := [tv_I r]) C rfl tw_X12_from tx_X12_from tl_L_108 rfl rfl (Nat.le_of_ble_eq_true rfl) dL_law_939 (tv_c1 (tv_inI _) (tv_c1 (tv_inI _) (fun v hv => by cases hv))) rfl ho.2 (S_X12_from l C.2.2.2.2.2.2.2.2.2.2.2.2.2 _ ((xs (((i + 1 : Nat) : Int)).toNat).toInt) ((xs (((i + 2 : Nat) : Int)).toNat).toInt) Dm) e2 (fun om => ?_)
  show lw_F p l e s m below meth c b Ec Em 942 _ [tv_I r, tv_I r] D1 D2
  exact lg_same (tgt := 1604) C rfl dL_law_942 (next D1 D2 ⟨oc, om⟩ hR2)
set_option maxRecDepth 20000 in
theorem lc_23 (C : lw_C p s m meth c b L xs Ec Em) (hL : L ≤ 3072) {R : td_D → td_D → Prop} (hs : ls_23 R) {i : Nat} (hi : i + 6 ≤ L) (ho : lw_ok Dc Dm) (hR : R Dc Dm) (next : ∀ Dc' Dm', lw_ok Dc' Dm' → R Dc' Dm' → lw_F p l e s m below meth c b Ec Em 1604 [tv_S 2, tv_R 1, tv_S 3, tv_I (i : Int)] [] Dc' Dm') : lw_F p l e s m below meth c b Ec Em 947 [tv_S 2, tv_R 1, tv_S 3, tv_I (i : Int)] [] Dc Dm := by
  obtain ⟨r, D1, D2, e1, e2, hR2⟩ := hs ((xs (((i + 1 : Nat) : Int)).toNat).toInt) Dc Dm (tv_inI _) ho hR
  refine lg_aloadR (r := 0) (i := 1) C rfl rfl dL_law_947 ?_
  refine lg_aloadS (i := 0) C rfl rfl dL_law_948 ?_
  refine lg_iload (i := 3) C rfl rfl dL_law_949 ?_
  refine lg_iconst C dL_law_950 ?_
  refine lg_iadd (x := ((i + 1 : Nat) : Int)) C (by unfold tv_w; omega) dL_law_951 ?_
  refine lg_iald C (lw_ix (by omega) (by omega)) dL_law_952 ?_
  refine lg_callC (y2 := mX11_swarm) (as := [tv_I ((xs (((i + 1 : Nat) : Int)).toNat).toInt)]) (st := []) (d := 0) (T := TX11) C rfl tw_X11_swarm tx_X11_swarm tl_L_109 rfl rfl (Nat.le_of_ble_eq_true rfl) (by decide) dL_law_953 (tv_c1 (tv_inI _) (fun v hv => by cases hv)) ho.1 (S_X11_swarm l C.2.2.2.2.2.2.2.2.2.2.2.2.1 _ ((xs (((i + 1 : Nat) : Int)).toNat).toInt) Dc) e1 (fun oc => ?_)
  show lw_F p l e s m below meth c b Ec Em 956 _ [tv_I r] D1 Dm
  refine lg_aloadS (i := 2) C rfl rfl dL_law_956 ?_
  refine lg_aloadS (i := 0) C rfl rfl dL_law_957 ?_
  refine lg_iload (i := 3) C rfl rfl dL_law_958 ?_
  refine lg_iconst C dL_law_959 ?_
  refine lg_iadd (x := ((i + 1 : Nat) : Int)) C (by unfold tv_w; omega) dL_law_960 ?_
  refine lg_iald C (lw_ix (by omega) (by omega)) dL_law_961 ?_
  refine lg_callM (y2 := mX12_swarm) (as := [tv_I ((xs (((i + 1 : Nat) : Int)).toNat).toInt)]) (st := [tv_I r]) C rfl tw_X12_swarm tx_X12_swarm tl_L_112 rfl rfl (Nat.le_of_ble_eq_true rfl) dL_law_962 (tv_c1 (tv_inI _) (fun v hv => by cases hv)) rfl ho.2 (S_X12_swarm l C.2.2.2.2.2.2.2.2.2.2.2.2.2 _ ((xs (((i + 1 : Nat) : Int)).toNat).toInt) Dm) e2 (fun om => ?_)
  show lw_F p l e s m below meth c b Ec Em 965 _ [tv_I r, tv_I r] D1 D2
  exact lg_same (tgt := 1604) C rfl dL_law_965 (next D1 D2 ⟨oc, om⟩ hR2)
set_option maxRecDepth 20000 in
theorem lc_24 (C : lw_C p s m meth c b L xs Ec Em) (hL : L ≤ 3072) {R : td_D → td_D → Prop} (hs : ls_24 R) {i : Nat} (hi : i + 6 ≤ L) (ho : lw_ok Dc Dm) (hR : R Dc Dm) (next : ∀ Dc' Dm', lw_ok Dc' Dm' → R Dc' Dm' → lw_F p l e s m below meth c b Ec Em 1604 [tv_S 2, tv_R 1, tv_S 3, tv_I (i : Int)] [] Dc' Dm') : lw_F p l e s m below meth c b Ec Em 970 [tv_S 2, tv_R 1, tv_S 3, tv_I (i : Int)] [] Dc Dm := by
  obtain ⟨r, D1, D2, e1, e2, hR2⟩ := hs ((xs (((i + 1 : Nat) : Int)).toNat).toInt) ((xs (((i + 2 : Nat) : Int)).toNat).toInt) ((xs (((i + 3 : Nat) : Int)).toNat).toInt) Dc Dm (tv_inI _) (tv_inI _) (tv_inI _) ho hR
  refine lg_aloadR (r := 0) (i := 1) C rfl rfl dL_law_970 ?_
  refine lg_aloadS (i := 0) C rfl rfl dL_law_971 ?_
  refine lg_iload (i := 3) C rfl rfl dL_law_972 ?_
  refine lg_iconst C dL_law_973 ?_
  refine lg_iadd (x := ((i + 1 : Nat) : Int)) C (by unfold tv_w; omega) dL_law_974 ?_
  refine lg_iald C (lw_ix (by omega) (by omega)) dL_law_975 ?_
  refine lg_aloadS (i := 0) C rfl rfl dL_law_976 ?_
  refine lg_iload (i := 3) C rfl rfl dL_law_977 ?_
  refine lg_iconst C dL_law_978 ?_
  refine lg_iadd (x := ((i + 2 : Nat) : Int)) C (by unfold tv_w; omega) dL_law_979 ?_
  refine lg_iald C (lw_ix (by omega) (by omega)) dL_law_980 ?_
  refine lg_aloadS (i := 0) C rfl rfl dL_law_981 ?_
  refine lg_iload (i := 3) C rfl rfl dL_law_982 ?_
  refine lg_iconst C dL_law_983 ?_
  refine lg_iadd (x := ((i + 3 : Nat) : Int)) C (by unfold tv_w; omega) dL_law_984 ?_
  refine lg_iald C (lw_ix (by omega) (by omega)) dL_law_985 ?_
  refine lg_callC (y2 := mX11_drawn) (as := [tv_I ((xs (((i + 1 : Nat) : Int)).toNat).toInt), tv_I ((xs (((i + 2 : Nat) : Int)).toNat).toInt), tv_I ((xs (((i + 3 : Nat) : Int)).toNat).toInt)]) (st := []) (d := 0) (T := TX11) C rfl tw_X11_drawn tx_X11_drawn tl_L_113 rfl rfl (Nat.le_of_ble_eq_true rfl) (by decide) dL_law_986 (tv_c1 (tv_inI _) (tv_c1 (tv_inI _) (tv_c1 (tv_inI _) (fun v hv => by cases hv)))) ho.1 (S_X11_drawn l C.2.2.2.2.2.2.2.2.2.2.2.2.1 _ ((xs (((i + 1 : Nat) : Int)).toNat).toInt) ((xs (((i + 2 : Nat) : Int)).toNat).toInt) ((xs (((i + 3 : Nat) : Int)).toNat).toInt) Dc) e1 (fun oc => ?_)
  show lw_F p l e s m below meth c b Ec Em 989 _ [tv_I r] D1 Dm
  refine lg_aloadS (i := 2) C rfl rfl dL_law_989 ?_
  refine lg_aloadS (i := 0) C rfl rfl dL_law_990 ?_
  refine lg_iload (i := 3) C rfl rfl dL_law_991 ?_
  refine lg_iconst C dL_law_992 ?_
  refine lg_iadd (x := ((i + 1 : Nat) : Int)) C (by unfold tv_w; omega) dL_law_993 ?_
  refine lg_iald C (lw_ix (by omega) (by omega)) dL_law_994 ?_
  refine lg_aloadS (i := 0) C rfl rfl dL_law_995 ?_
  refine lg_iload (i := 3) C rfl rfl dL_law_996 ?_
  refine lg_iconst C dL_law_997 ?_
  refine lg_iadd (x := ((i + 2 : Nat) : Int)) C (by unfold tv_w; omega) dL_law_998 ?_
  refine lg_iald C (lw_ix (by omega) (by omega)) dL_law_999 ?_
  refine lg_aloadS (i := 0) C rfl rfl dL_law_1000 ?_
  refine lg_iload (i := 3) C rfl rfl dL_law_1001 ?_
  refine lg_iconst C dL_law_1002 ?_
  refine lg_iadd (x := ((i + 3 : Nat) : Int)) C (by unfold tv_w; omega) dL_law_1003 ?_
  refine lg_iald C (lw_ix (by omega) (by omega)) dL_law_1004 ?_
  refine lg_callM (y2 := mX12_drawn) (as := [tv_I ((xs (((i + 1 : Nat) : Int)).toNat).toInt), tv_I ((xs (((i + 2 : Nat) : Int)).toNat).toInt), tv_I ((xs (((i + 3 : Nat) : Int)).toNat).toInt)]) (st := [tv_I r]) C rfl tw_X12_drawn tx_X12_drawn tl_L_116 rfl rfl (Nat.le_of_ble_eq_true rfl) dL_law_1005 (tv_c1 (tv_inI _) (tv_c1 (tv_inI _) (tv_c1 (tv_inI _) (fun v hv => by cases hv)))) rfl ho.2 (S_X12_drawn l C.2.2.2.2.2.2.2.2.2.2.2.2.2 _ ((xs (((i + 1 : Nat) : Int)).toNat).toInt) ((xs (((i + 2 : Nat) : Int)).toNat).toInt) ((xs (((i + 3 : Nat) : Int)).toNat).toInt) Dm) e2 (fun om => ?_)
  show lw_F p l e s m below meth c b Ec Em 1008 _ [tv_I r, tv_I r] D1 D2
  exact lg_same (tgt := 1604) C rfl dL_law_1008 (next D1 D2 ⟨oc, om⟩ hR2)
set_option maxRecDepth 20000 in
theorem lc_25 (C : lw_C p s m meth c b L xs Ec Em) (hL : L ≤ 3072) {R : td_D → td_D → Prop} (hs : ls_25 R) {i : Nat} (hi : i + 6 ≤ L) (ho : lw_ok Dc Dm) (hR : R Dc Dm) (next : ∀ Dc' Dm', lw_ok Dc' Dm' → R Dc' Dm' → lw_F p l e s m below meth c b Ec Em 1604 [tv_S 2, tv_R 1, tv_S 3, tv_I (i : Int)] [] Dc' Dm') : lw_F p l e s m below meth c b Ec Em 1013 [tv_S 2, tv_R 1, tv_S 3, tv_I (i : Int)] [] Dc Dm := by
  obtain ⟨r, D1, D2, e1, e2, hR2⟩ := hs ((xs (((i + 1 : Nat) : Int)).toNat).toInt) ((xs (((i + 2 : Nat) : Int)).toNat).toInt) Dc Dm (tv_inI _) (tv_inI _) ho hR
  refine lg_aloadR (r := 0) (i := 1) C rfl rfl dL_law_1013 ?_
  refine lg_aloadS (i := 0) C rfl rfl dL_law_1014 ?_
  refine lg_iload (i := 3) C rfl rfl dL_law_1015 ?_
  refine lg_iconst C dL_law_1016 ?_
  refine lg_iadd (x := ((i + 1 : Nat) : Int)) C (by unfold tv_w; omega) dL_law_1017 ?_
  refine lg_iald C (lw_ix (by omega) (by omega)) dL_law_1018 ?_
  refine lg_aloadS (i := 0) C rfl rfl dL_law_1019 ?_
  refine lg_iload (i := 3) C rfl rfl dL_law_1020 ?_
  refine lg_iconst C dL_law_1021 ?_
  refine lg_iadd (x := ((i + 2 : Nat) : Int)) C (by unfold tv_w; omega) dL_law_1022 ?_
  refine lg_iald C (lw_ix (by omega) (by omega)) dL_law_1023 ?_
  refine lg_callC (y2 := mX11_takes) (as := [tv_I ((xs (((i + 1 : Nat) : Int)).toNat).toInt), tv_I ((xs (((i + 2 : Nat) : Int)).toNat).toInt)]) (st := []) (d := 0) (T := TX11) C rfl tw_X11_takes tx_X11_takes tl_L_117 rfl rfl (Nat.le_of_ble_eq_true rfl) (by decide) dL_law_1024 (tv_c1 (tv_inI _) (tv_c1 (tv_inI _) (fun v hv => by cases hv))) ho.1 (S_X11_takes l C.2.2.2.2.2.2.2.2.2.2.2.2.1 _ ((xs (((i + 1 : Nat) : Int)).toNat).toInt) ((xs (((i + 2 : Nat) : Int)).toNat).toInt) Dc) e1 (fun oc => ?_)
  show lw_F p l e s m below meth c b Ec Em 1027 _ [tv_I r] D1 Dm
  refine lg_aloadS (i := 2) C rfl rfl dL_law_1027 ?_
  refine lg_aloadS (i := 0) C rfl rfl dL_law_1028 ?_
  refine lg_iload (i := 3) C rfl rfl dL_law_1029 ?_
  refine lg_iconst C dL_law_1030 ?_
  refine lg_iadd (x := ((i + 1 : Nat) : Int)) C (by unfold tv_w; omega) dL_law_1031 ?_
  refine lg_iald C (lw_ix (by omega) (by omega)) dL_law_1032 ?_
  refine lg_aloadS (i := 0) C rfl rfl dL_law_1033 ?_
  refine lg_iload (i := 3) C rfl rfl dL_law_1034 ?_
  refine lg_iconst C dL_law_1035 ?_
  refine lg_iadd (x := ((i + 2 : Nat) : Int)) C (by unfold tv_w; omega) dL_law_1036 ?_
  refine lg_iald C (lw_ix (by omega) (by omega)) dL_law_1037 ?_
  refine lg_callM (y2 := mX12_takes) (as := [tv_I ((xs (((i + 1 : Nat) : Int)).toNat).toInt), tv_I ((xs (((i + 2 : Nat) : Int)).toNat).toInt)]) (st := [tv_I r]) C rfl tw_X12_takes tx_X12_takes tl_L_120 rfl rfl (Nat.le_of_ble_eq_true rfl) dL_law_1038 (tv_c1 (tv_inI _) (tv_c1 (tv_inI _) (fun v hv => by cases hv))) rfl ho.2 (S_X12_takes l C.2.2.2.2.2.2.2.2.2.2.2.2.2 _ ((xs (((i + 1 : Nat) : Int)).toNat).toInt) ((xs (((i + 2 : Nat) : Int)).toNat).toInt) Dm) e2 (fun om => ?_)
  show lw_F p l e s m below meth c b Ec Em 1041 _ [tv_I r, tv_I r] D1 D2
  exact lg_same (tgt := 1604) C rfl dL_law_1041 (next D1 D2 ⟨oc, om⟩ hR2)
set_option maxRecDepth 20000 in
theorem lc_26 (C : lw_C p s m meth c b L xs Ec Em) (hL : L ≤ 3072) {R : td_D → td_D → Prop} (hs : ls_26 R) {i : Nat} (hi : i + 6 ≤ L) (ho : lw_ok Dc Dm) (hR : R Dc Dm) (next : ∀ Dc' Dm', lw_ok Dc' Dm' → R Dc' Dm' → lw_F p l e s m below meth c b Ec Em 1604 [tv_S 2, tv_R 1, tv_S 3, tv_I (i : Int)] [] Dc' Dm') : lw_F p l e s m below meth c b Ec Em 1046 [tv_S 2, tv_R 1, tv_S 3, tv_I (i : Int)] [] Dc Dm := by
  obtain ⟨r, D1, D2, e1, e2, hR2⟩ := hs ((xs (((i + 1 : Nat) : Int)).toNat).toInt) ((xs (((i + 2 : Nat) : Int)).toNat).toInt) Dc Dm (tv_inI _) (tv_inI _) ho hR
  refine lg_aloadR (r := 0) (i := 1) C rfl rfl dL_law_1046 ?_
  refine lg_aloadS (i := 0) C rfl rfl dL_law_1047 ?_
  refine lg_iload (i := 3) C rfl rfl dL_law_1048 ?_
  refine lg_iconst C dL_law_1049 ?_
  refine lg_iadd (x := ((i + 1 : Nat) : Int)) C (by unfold tv_w; omega) dL_law_1050 ?_
  refine lg_iald C (lw_ix (by omega) (by omega)) dL_law_1051 ?_
  refine lg_aloadS (i := 0) C rfl rfl dL_law_1052 ?_
  refine lg_iload (i := 3) C rfl rfl dL_law_1053 ?_
  refine lg_iconst C dL_law_1054 ?_
  refine lg_iadd (x := ((i + 2 : Nat) : Int)) C (by unfold tv_w; omega) dL_law_1055 ?_
  refine lg_iald C (lw_ix (by omega) (by omega)) dL_law_1056 ?_
  refine lg_callC (y2 := mX11_puts) (as := [tv_I ((xs (((i + 1 : Nat) : Int)).toNat).toInt), tv_I ((xs (((i + 2 : Nat) : Int)).toNat).toInt)]) (st := []) (d := 0) (T := TX11) C rfl tw_X11_puts tx_X11_puts tl_L_121 rfl rfl (Nat.le_of_ble_eq_true rfl) (by decide) dL_law_1057 (tv_c1 (tv_inI _) (tv_c1 (tv_inI _) (fun v hv => by cases hv))) ho.1 (S_X11_puts l C.2.2.2.2.2.2.2.2.2.2.2.2.1 _ ((xs (((i + 1 : Nat) : Int)).toNat).toInt) ((xs (((i + 2 : Nat) : Int)).toNat).toInt) Dc) e1 (fun oc => ?_)
  show lw_F p l e s m below meth c b Ec Em 1060 _ [tv_I r] D1 Dm
  refine lg_aloadS (i := 2) C rfl rfl dL_law_1060 ?_
  refine lg_aloadS (i := 0) C rfl rfl dL_law_1061 ?_
  refine lg_iload (i := 3) C rfl rfl dL_law_1062 ?_
  refine lg_iconst C dL_law_1063 ?_
  refine lg_iadd (x := ((i + 1 : Nat) : Int)) C (by unfold tv_w; omega) dL_law_1064 ?_
  refine lg_iald C (lw_ix (by omega) (by omega)) dL_law_1065 ?_
  refine lg_aloadS (i := 0) C rfl rfl dL_law_1066 ?_
  refine lg_iload (i := 3) C rfl rfl dL_law_1067 ?_
  refine lg_iconst C dL_law_1068 ?_
  refine lg_iadd (x := ((i + 2 : Nat) : Int)) C (by unfold tv_w; omega) dL_law_1069 ?_
  refine lg_iald C (lw_ix (by omega) (by omega)) dL_law_1070 ?_
  refine lg_callM (y2 := mX12_puts) (as := [tv_I ((xs (((i + 1 : Nat) : Int)).toNat).toInt), tv_I ((xs (((i + 2 : Nat) : Int)).toNat).toInt)]) (st := [tv_I r]) C rfl tw_X12_puts tx_X12_puts tl_L_124 rfl rfl (Nat.le_of_ble_eq_true rfl) dL_law_1071 (tv_c1 (tv_inI _) (tv_c1 (tv_inI _) (fun v hv => by cases hv))) rfl ho.2 (S_X12_puts l C.2.2.2.2.2.2.2.2.2.2.2.2.2 _ ((xs (((i + 1 : Nat) : Int)).toNat).toInt) ((xs (((i + 2 : Nat) : Int)).toNat).toInt) Dm) e2 (fun om => ?_)
  show lw_F p l e s m below meth c b Ec Em 1074 _ [tv_I r, tv_I r] D1 D2
  exact lg_same (tgt := 1604) C rfl dL_law_1074 (next D1 D2 ⟨oc, om⟩ hR2)
set_option maxRecDepth 20000 in
theorem lc_27 (C : lw_C p s m meth c b L xs Ec Em) (hL : L ≤ 3072) {R : td_D → td_D → Prop} (hs : ls_27 R) {i : Nat} (hi : i + 6 ≤ L) (ho : lw_ok Dc Dm) (hR : R Dc Dm) (next : ∀ Dc' Dm', lw_ok Dc' Dm' → R Dc' Dm' → lw_F p l e s m below meth c b Ec Em 1604 [tv_S 2, tv_R 1, tv_S 3, tv_I (i : Int)] [] Dc' Dm') : lw_F p l e s m below meth c b Ec Em 1079 [tv_S 2, tv_R 1, tv_S 3, tv_I (i : Int)] [] Dc Dm := by
  obtain ⟨r, D1, D2, e1, e2, hR2⟩ := hs Dc Dm  ho hR
  refine lg_aloadR (r := 0) (i := 1) C rfl rfl dL_law_1079 ?_
  refine lg_callC (y2 := mX11_day) (as := []) (st := []) (d := 0) (T := TX11) C rfl tw_X11_day tx_X11_day tl_L_125 rfl rfl (Nat.le_of_ble_eq_true rfl) (by decide) dL_law_1080 (fun v hv => by cases hv) ho.1 (S_X11_day l C.2.2.2.2.2.2.2.2.2.2.2.2.1 _ Dc) e1 (fun oc => ?_)
  show lw_F p l e s m below meth c b Ec Em 1083 _ [tv_I r] D1 Dm
  refine lg_aloadS (i := 2) C rfl rfl dL_law_1083 ?_
  refine lg_callM (y2 := mX12_day) (as := []) (st := [tv_I r]) C rfl tw_X12_day tx_X12_day tl_L_128 rfl rfl (Nat.le_of_ble_eq_true rfl) dL_law_1084 (fun v hv => by cases hv) rfl ho.2 (S_X12_day l C.2.2.2.2.2.2.2.2.2.2.2.2.2 _ Dm) e2 (fun om => ?_)
  show lw_F p l e s m below meth c b Ec Em 1087 _ [tv_I r, tv_I r] D1 D2
  exact lg_same (tgt := 1604) C rfl dL_law_1087 (next D1 D2 ⟨oc, om⟩ hR2)
set_option maxRecDepth 20000 in
theorem lc_28 (C : lw_C p s m meth c b L xs Ec Em) (hL : L ≤ 3072) {R : td_D → td_D → Prop} (hs : ls_28 R) {i : Nat} (hi : i + 6 ≤ L) (ho : lw_ok Dc Dm) (hR : R Dc Dm) (next : ∀ Dc' Dm', lw_ok Dc' Dm' → R Dc' Dm' → lw_F p l e s m below meth c b Ec Em 1604 [tv_S 2, tv_R 1, tv_S 3, tv_I (i : Int)] [] Dc' Dm') : lw_F p l e s m below meth c b Ec Em 1092 [tv_S 2, tv_R 1, tv_S 3, tv_I (i : Int)] [] Dc Dm := by
  obtain ⟨r, D1, D2, e1, e2, hR2⟩ := hs ((xs (((i + 1 : Nat) : Int)).toNat).toInt) Dc Dm (tv_inI _) ho hR
  refine lg_aloadR (r := 0) (i := 1) C rfl rfl dL_law_1092 ?_
  refine lg_aloadS (i := 0) C rfl rfl dL_law_1093 ?_
  refine lg_iload (i := 3) C rfl rfl dL_law_1094 ?_
  refine lg_iconst C dL_law_1095 ?_
  refine lg_iadd (x := ((i + 1 : Nat) : Int)) C (by unfold tv_w; omega) dL_law_1096 ?_
  refine lg_iald C (lw_ix (by omega) (by omega)) dL_law_1097 ?_
  refine lg_callC (y2 := mX11_does) (as := [tv_I ((xs (((i + 1 : Nat) : Int)).toNat).toInt)]) (st := []) (d := 0) (T := TX11) C rfl tw_X11_does tx_X11_does tl_L_129 rfl rfl (Nat.le_of_ble_eq_true rfl) (by decide) dL_law_1098 (tv_c1 (tv_inI _) (fun v hv => by cases hv)) ho.1 (S_X11_does l C.2.2.2.2.2.2.2.2.2.2.2.2.1 _ ((xs (((i + 1 : Nat) : Int)).toNat).toInt) Dc) e1 (fun oc => ?_)
  show lw_F p l e s m below meth c b Ec Em 1101 _ [tv_I r] D1 Dm
  refine lg_aloadS (i := 2) C rfl rfl dL_law_1101 ?_
  refine lg_aloadS (i := 0) C rfl rfl dL_law_1102 ?_
  refine lg_iload (i := 3) C rfl rfl dL_law_1103 ?_
  refine lg_iconst C dL_law_1104 ?_
  refine lg_iadd (x := ((i + 1 : Nat) : Int)) C (by unfold tv_w; omega) dL_law_1105 ?_
  refine lg_iald C (lw_ix (by omega) (by omega)) dL_law_1106 ?_
  refine lg_callM (y2 := mX12_does) (as := [tv_I ((xs (((i + 1 : Nat) : Int)).toNat).toInt)]) (st := [tv_I r]) C rfl tw_X12_does tx_X12_does tl_L_132 rfl rfl (Nat.le_of_ble_eq_true rfl) dL_law_1107 (tv_c1 (tv_inI _) (fun v hv => by cases hv)) rfl ho.2 (S_X12_does l C.2.2.2.2.2.2.2.2.2.2.2.2.2 _ ((xs (((i + 1 : Nat) : Int)).toNat).toInt) Dm) e2 (fun om => ?_)
  show lw_F p l e s m below meth c b Ec Em 1110 _ [tv_I r, tv_I r] D1 D2
  exact lg_same (tgt := 1604) C rfl dL_law_1110 (next D1 D2 ⟨oc, om⟩ hR2)
set_option maxRecDepth 20000 in
theorem lc_29 (C : lw_C p s m meth c b L xs Ec Em) (hL : L ≤ 3072) {R : td_D → td_D → Prop} (hs : ls_29 R) {i : Nat} (hi : i + 6 ≤ L) (ho : lw_ok Dc Dm) (hR : R Dc Dm) (next : ∀ Dc' Dm', lw_ok Dc' Dm' → R Dc' Dm' → lw_F p l e s m below meth c b Ec Em 1604 [tv_S 2, tv_R 1, tv_S 3, tv_I (i : Int)] [] Dc' Dm') : lw_F p l e s m below meth c b Ec Em 1115 [tv_S 2, tv_R 1, tv_S 3, tv_I (i : Int)] [] Dc Dm := by
  obtain ⟨r, D1, D2, e1, e2, hR2⟩ := hs ((xs (((i + 1 : Nat) : Int)).toNat).toInt) Dc Dm (tv_inI _) ho hR
  refine lg_aloadR (r := 0) (i := 1) C rfl rfl dL_law_1115 ?_
  refine lg_aloadS (i := 0) C rfl rfl dL_law_1116 ?_
  refine lg_iload (i := 3) C rfl rfl dL_law_1117 ?_
  refine lg_iconst C dL_law_1118 ?_
  refine lg_iadd (x := ((i + 1 : Nat) : Int)) C (by unfold tv_w; omega) dL_law_1119 ?_
  refine lg_iald C (lw_ix (by omega) (by omega)) dL_law_1120 ?_
  refine lg_callC (y2 := mX11_marry) (as := [tv_I ((xs (((i + 1 : Nat) : Int)).toNat).toInt)]) (st := []) (d := 0) (T := TX11) C rfl tw_X11_marry tx_X11_marry tl_L_133 rfl rfl (Nat.le_of_ble_eq_true rfl) (by decide) dL_law_1121 (tv_c1 (tv_inI _) (fun v hv => by cases hv)) ho.1 (S_X11_marry l C.2.2.2.2.2.2.2.2.2.2.2.2.1 _ ((xs (((i + 1 : Nat) : Int)).toNat).toInt) Dc) e1 (fun oc => ?_)
  show lw_F p l e s m below meth c b Ec Em 1124 _ [tv_I r] D1 Dm
  refine lg_aloadS (i := 2) C rfl rfl dL_law_1124 ?_
  refine lg_aloadS (i := 0) C rfl rfl dL_law_1125 ?_
  refine lg_iload (i := 3) C rfl rfl dL_law_1126 ?_
  refine lg_iconst C dL_law_1127 ?_
  refine lg_iadd (x := ((i + 1 : Nat) : Int)) C (by unfold tv_w; omega) dL_law_1128 ?_
  refine lg_iald C (lw_ix (by omega) (by omega)) dL_law_1129 ?_
  refine lg_callM (y2 := mX12_marry) (as := [tv_I ((xs (((i + 1 : Nat) : Int)).toNat).toInt)]) (st := [tv_I r]) C rfl tw_X12_marry tx_X12_marry tl_L_136 rfl rfl (Nat.le_of_ble_eq_true rfl) dL_law_1130 (tv_c1 (tv_inI _) (fun v hv => by cases hv)) rfl ho.2 (S_X12_marry l C.2.2.2.2.2.2.2.2.2.2.2.2.2 _ ((xs (((i + 1 : Nat) : Int)).toNat).toInt) Dm) e2 (fun om => ?_)
  show lw_F p l e s m below meth c b Ec Em 1133 _ [tv_I r, tv_I r] D1 D2
  exact lg_same (tgt := 1604) C rfl dL_law_1133 (next D1 D2 ⟨oc, om⟩ hR2)
set_option maxRecDepth 20000 in
theorem lc_30 (C : lw_C p s m meth c b L xs Ec Em) (hL : L ≤ 3072) {R : td_D → td_D → Prop} (hs : ls_30 R) {i : Nat} (hi : i + 6 ≤ L) (ho : lw_ok Dc Dm) (hR : R Dc Dm) (next : ∀ Dc' Dm', lw_ok Dc' Dm' → R Dc' Dm' → lw_F p l e s m below meth c b Ec Em 1604 [tv_S 2, tv_R 1, tv_S 3, tv_I (i : Int)] [] Dc' Dm') : lw_F p l e s m below meth c b Ec Em 1138 [tv_S 2, tv_R 1, tv_S 3, tv_I (i : Int)] [] Dc Dm := by
  obtain ⟨r, D1, D2, e1, e2, hR2⟩ := hs ((xs (((i + 1 : Nat) : Int)).toNat).toInt) Dc Dm (tv_inI _) ho hR
  refine lg_aloadR (r := 0) (i := 1) C rfl rfl dL_law_1138 ?_
  refine lg_aloadS (i := 0) C rfl rfl dL_law_1139 ?_
  refine lg_iload (i := 3) C rfl rfl dL_law_1140 ?_
  refine lg_iconst C dL_law_1141 ?_
  refine lg_iadd (x := ((i + 1 : Nat) : Int)) C (by unfold tv_w; omega) dL_law_1142 ?_
  refine lg_iald C (lw_ix (by omega) (by omega)) dL_law_1143 ?_
  refine lg_callC (y2 := mX11_led) (as := [tv_I ((xs (((i + 1 : Nat) : Int)).toNat).toInt)]) (st := []) (d := 0) (T := TX11) C rfl tw_X11_led tx_X11_led tl_L_137 rfl rfl (Nat.le_of_ble_eq_true rfl) (by decide) dL_law_1144 (tv_c1 (tv_inI _) (fun v hv => by cases hv)) ho.1 (S_X11_led l C.2.2.2.2.2.2.2.2.2.2.2.2.1 _ ((xs (((i + 1 : Nat) : Int)).toNat).toInt) Dc) e1 (fun oc => ?_)
  show lw_F p l e s m below meth c b Ec Em 1147 _ [tv_I r] D1 Dm
  refine lg_aloadS (i := 2) C rfl rfl dL_law_1147 ?_
  refine lg_aloadS (i := 0) C rfl rfl dL_law_1148 ?_
  refine lg_iload (i := 3) C rfl rfl dL_law_1149 ?_
  refine lg_iconst C dL_law_1150 ?_
  refine lg_iadd (x := ((i + 1 : Nat) : Int)) C (by unfold tv_w; omega) dL_law_1151 ?_
  refine lg_iald C (lw_ix (by omega) (by omega)) dL_law_1152 ?_
  refine lg_callM (y2 := mX12_led) (as := [tv_I ((xs (((i + 1 : Nat) : Int)).toNat).toInt)]) (st := [tv_I r]) C rfl tw_X12_led tx_X12_led tl_L_140 rfl rfl (Nat.le_of_ble_eq_true rfl) dL_law_1153 (tv_c1 (tv_inI _) (fun v hv => by cases hv)) rfl ho.2 (S_X12_led l C.2.2.2.2.2.2.2.2.2.2.2.2.2 _ ((xs (((i + 1 : Nat) : Int)).toNat).toInt) Dm) e2 (fun om => ?_)
  show lw_F p l e s m below meth c b Ec Em 1156 _ [tv_I r, tv_I r] D1 D2
  exact lg_same (tgt := 1604) C rfl dL_law_1156 (next D1 D2 ⟨oc, om⟩ hR2)
set_option maxRecDepth 20000 in
theorem lc_31 (C : lw_C p s m meth c b L xs Ec Em) (hL : L ≤ 3072) {R : td_D → td_D → Prop} (hs : ls_31 R) {i : Nat} (hi : i + 6 ≤ L) (ho : lw_ok Dc Dm) (hR : R Dc Dm) (next : ∀ Dc' Dm', lw_ok Dc' Dm' → R Dc' Dm' → lw_F p l e s m below meth c b Ec Em 1604 [tv_S 2, tv_R 1, tv_S 3, tv_I (i : Int)] [] Dc' Dm') : lw_F p l e s m below meth c b Ec Em 1161 [tv_S 2, tv_R 1, tv_S 3, tv_I (i : Int)] [] Dc Dm := by
  obtain ⟨r, D1, D2, e1, e2, hR2⟩ := hs Dc Dm  ho hR
  refine lg_aloadR (r := 0) (i := 1) C rfl rfl dL_law_1161 ?_
  refine lg_callC (y2 := mX11_image) (as := []) (st := []) (d := 0) (T := TX11) C rfl tw_X11_image tx_X11_image tl_L_141 rfl rfl (Nat.le_of_ble_eq_true rfl) (by decide) dL_law_1162 (fun v hv => by cases hv) ho.1 (S_X11_image l C.2.2.2.2.2.2.2.2.2.2.2.2.1 _ Dc) e1 (fun oc => ?_)
  show lw_F p l e s m below meth c b Ec Em 1165 _ [tv_I r] D1 Dm
  refine lg_aloadS (i := 2) C rfl rfl dL_law_1165 ?_
  refine lg_callM (y2 := mX12_image) (as := []) (st := [tv_I r]) C rfl tw_X12_image tx_X12_image tl_L_144 rfl rfl (Nat.le_of_ble_eq_true rfl) dL_law_1166 (fun v hv => by cases hv) rfl ho.2 (S_X12_image l C.2.2.2.2.2.2.2.2.2.2.2.2.2 _ Dm) e2 (fun om => ?_)
  show lw_F p l e s m below meth c b Ec Em 1169 _ [tv_I r, tv_I r] D1 D2
  exact lg_same (tgt := 1604) C rfl dL_law_1169 (next D1 D2 ⟨oc, om⟩ hR2)
set_option maxRecDepth 20000 in
theorem lc_32 (C : lw_C p s m meth c b L xs Ec Em) (hL : L ≤ 3072) {R : td_D → td_D → Prop} (hs : ls_32 R) {i : Nat} (hi : i + 6 ≤ L) (ho : lw_ok Dc Dm) (hR : R Dc Dm) (next : ∀ Dc' Dm', lw_ok Dc' Dm' → R Dc' Dm' → lw_F p l e s m below meth c b Ec Em 1604 [tv_S 2, tv_R 1, tv_S 3, tv_I (i : Int)] [] Dc' Dm') : lw_F p l e s m below meth c b Ec Em 1174 [tv_S 2, tv_R 1, tv_S 3, tv_I (i : Int)] [] Dc Dm := by
  obtain ⟨r, D1, D2, e1, e2, hR2⟩ := hs Dc Dm  ho hR
  refine lg_aloadR (r := 0) (i := 1) C rfl rfl dL_law_1174 ?_
  refine lg_callC (y2 := mX11_back) (as := []) (st := []) (d := 0) (T := TX11) C rfl tw_X11_back tx_X11_back tl_L_145 rfl rfl (Nat.le_of_ble_eq_true rfl) (by decide) dL_law_1175 (fun v hv => by cases hv) ho.1 (S_X11_back l C.2.2.2.2.2.2.2.2.2.2.2.2.1 _ Dc) e1 (fun oc => ?_)
  show lw_F p l e s m below meth c b Ec Em 1178 _ [tv_I r] D1 Dm
  refine lg_aloadS (i := 2) C rfl rfl dL_law_1178 ?_
  refine lg_callM (y2 := mX12_back) (as := []) (st := [tv_I r]) C rfl tw_X12_back tx_X12_back tl_L_148 rfl rfl (Nat.le_of_ble_eq_true rfl) dL_law_1179 (fun v hv => by cases hv) rfl ho.2 (S_X12_back l C.2.2.2.2.2.2.2.2.2.2.2.2.2 _ Dm) e2 (fun om => ?_)
  show lw_F p l e s m below meth c b Ec Em 1182 _ [tv_I r, tv_I r] D1 D2
  exact lg_same (tgt := 1604) C rfl dL_law_1182 (next D1 D2 ⟨oc, om⟩ hR2)
set_option maxRecDepth 20000 in
theorem lc_33 (C : lw_C p s m meth c b L xs Ec Em) (hL : L ≤ 3072) {R : td_D → td_D → Prop} (hs : ls_33 R) {i : Nat} (hi : i + 6 ≤ L) (ho : lw_ok Dc Dm) (hR : R Dc Dm) (next : ∀ Dc' Dm', lw_ok Dc' Dm' → R Dc' Dm' → lw_F p l e s m below meth c b Ec Em 1604 [tv_S 2, tv_R 1, tv_S 3, tv_I (i : Int)] [] Dc' Dm') : lw_F p l e s m below meth c b Ec Em 1187 [tv_S 2, tv_R 1, tv_S 3, tv_I (i : Int)] [] Dc Dm := by
  obtain ⟨r, D1, D2, e1, e2, hR2⟩ := hs Dc Dm  ho hR
  refine lg_aloadR (r := 0) (i := 1) C rfl rfl dL_law_1187 ?_
  refine lg_callC (y2 := mX11_undo) (as := []) (st := []) (d := 0) (T := TX11) C rfl tw_X11_undo tx_X11_undo tl_L_149 rfl rfl (Nat.le_of_ble_eq_true rfl) (by decide) dL_law_1188 (fun v hv => by cases hv) ho.1 (S_X11_undo l C.2.2.2.2.2.2.2.2.2.2.2.2.1 _ Dc) e1 (fun oc => ?_)
  show lw_F p l e s m below meth c b Ec Em 1191 _ [tv_I r] D1 Dm
  refine lg_aloadS (i := 2) C rfl rfl dL_law_1191 ?_
  refine lg_callM (y2 := mX12_undo) (as := []) (st := [tv_I r]) C rfl tw_X12_undo tx_X12_undo tl_L_152 rfl rfl (Nat.le_of_ble_eq_true rfl) dL_law_1192 (fun v hv => by cases hv) rfl ho.2 (S_X12_undo l C.2.2.2.2.2.2.2.2.2.2.2.2.2 _ Dm) e2 (fun om => ?_)
  show lw_F p l e s m below meth c b Ec Em 1195 _ [tv_I r, tv_I r] D1 D2
  exact lg_same (tgt := 1604) C rfl dL_law_1195 (next D1 D2 ⟨oc, om⟩ hR2)
set_option maxRecDepth 20000 in
theorem lc_34 (C : lw_C p s m meth c b L xs Ec Em) (hL : L ≤ 3072) {R : td_D → td_D → Prop} (hs : ls_34 R) {i : Nat} (hi : i + 6 ≤ L) (ho : lw_ok Dc Dm) (hR : R Dc Dm) (next : ∀ Dc' Dm', lw_ok Dc' Dm' → R Dc' Dm' → lw_F p l e s m below meth c b Ec Em 1604 [tv_S 2, tv_R 1, tv_S 3, tv_I (i : Int)] [] Dc' Dm') : lw_F p l e s m below meth c b Ec Em 1200 [tv_S 2, tv_R 1, tv_S 3, tv_I (i : Int)] [] Dc Dm := by
  obtain ⟨r, D1, D2, e1, e2, hR2⟩ := hs Dc Dm  ho hR
  refine lg_aloadR (r := 0) (i := 1) C rfl rfl dL_law_1200 ?_
  refine lg_callC (y2 := mX11_redo) (as := []) (st := []) (d := 0) (T := TX11) C rfl tw_X11_redo tx_X11_redo tl_L_153 rfl rfl (Nat.le_of_ble_eq_true rfl) (by decide) dL_law_1201 (fun v hv => by cases hv) ho.1 (S_X11_redo l C.2.2.2.2.2.2.2.2.2.2.2.2.1 _ Dc) e1 (fun oc => ?_)
  show lw_F p l e s m below meth c b Ec Em 1204 _ [tv_I r] D1 Dm
  refine lg_aloadS (i := 2) C rfl rfl dL_law_1204 ?_
  refine lg_callM (y2 := mX12_redo) (as := []) (st := [tv_I r]) C rfl tw_X12_redo tx_X12_redo tl_L_156 rfl rfl (Nat.le_of_ble_eq_true rfl) dL_law_1205 (fun v hv => by cases hv) rfl ho.2 (S_X12_redo l C.2.2.2.2.2.2.2.2.2.2.2.2.2 _ Dm) e2 (fun om => ?_)
  show lw_F p l e s m below meth c b Ec Em 1208 _ [tv_I r, tv_I r] D1 D2
  exact lg_same (tgt := 1604) C rfl dL_law_1208 (next D1 D2 ⟨oc, om⟩ hR2)
set_option maxRecDepth 20000 in
theorem lc_35 (C : lw_C p s m meth c b L xs Ec Em) (hL : L ≤ 3072) {R : td_D → td_D → Prop} (hs : ls_35 R) {i : Nat} (hi : i + 6 ≤ L) (ho : lw_ok Dc Dm) (hR : R Dc Dm) (next : ∀ Dc' Dm', lw_ok Dc' Dm' → R Dc' Dm' → lw_F p l e s m below meth c b Ec Em 1604 [tv_S 2, tv_R 1, tv_S 3, tv_I (i : Int)] [] Dc' Dm') : lw_F p l e s m below meth c b Ec Em 1213 [tv_S 2, tv_R 1, tv_S 3, tv_I (i : Int)] [] Dc Dm := by
  obtain ⟨r, D1, D2, e1, e2, hR2⟩ := hs ((xs (((i + 1 : Nat) : Int)).toNat).toInt) Dc Dm (tv_inI _) ho hR
  refine lg_aloadR (r := 0) (i := 1) C rfl rfl dL_law_1213 ?_
  refine lg_aloadS (i := 0) C rfl rfl dL_law_1214 ?_
  refine lg_iload (i := 3) C rfl rfl dL_law_1215 ?_
  refine lg_iconst C dL_law_1216 ?_
  refine lg_iadd (x := ((i + 1 : Nat) : Int)) C (by unfold tv_w; omega) dL_law_1217 ?_
  refine lg_iald C (lw_ix (by omega) (by omega)) dL_law_1218 ?_
  refine lg_callC (y2 := mX11_body) (as := [tv_I ((xs (((i + 1 : Nat) : Int)).toNat).toInt)]) (st := []) (d := 0) (T := TX11) C rfl tw_X11_body tx_X11_body tl_L_157 rfl rfl (Nat.le_of_ble_eq_true rfl) (by decide) dL_law_1219 (tv_c1 (tv_inI _) (fun v hv => by cases hv)) ho.1 (S_X11_body l C.2.2.2.2.2.2.2.2.2.2.2.2.1 _ ((xs (((i + 1 : Nat) : Int)).toNat).toInt) Dc) e1 (fun oc => ?_)
  show lw_F p l e s m below meth c b Ec Em 1222 _ [tv_I r] D1 Dm
  refine lg_aloadS (i := 2) C rfl rfl dL_law_1222 ?_
  refine lg_aloadS (i := 0) C rfl rfl dL_law_1223 ?_
  refine lg_iload (i := 3) C rfl rfl dL_law_1224 ?_
  refine lg_iconst C dL_law_1225 ?_
  refine lg_iadd (x := ((i + 1 : Nat) : Int)) C (by unfold tv_w; omega) dL_law_1226 ?_
  refine lg_iald C (lw_ix (by omega) (by omega)) dL_law_1227 ?_
  refine lg_callM (y2 := mX12_body) (as := [tv_I ((xs (((i + 1 : Nat) : Int)).toNat).toInt)]) (st := [tv_I r]) C rfl tw_X12_body tx_X12_body tl_L_160 rfl rfl (Nat.le_of_ble_eq_true rfl) dL_law_1228 (tv_c1 (tv_inI _) (fun v hv => by cases hv)) rfl ho.2 (S_X12_body l C.2.2.2.2.2.2.2.2.2.2.2.2.2 _ ((xs (((i + 1 : Nat) : Int)).toNat).toInt) Dm) e2 (fun om => ?_)
  show lw_F p l e s m below meth c b Ec Em 1231 _ [tv_I r, tv_I r] D1 D2
  exact lg_same (tgt := 1604) C rfl dL_law_1231 (next D1 D2 ⟨oc, om⟩ hR2)
set_option maxRecDepth 20000 in
theorem lc_36 (C : lw_C p s m meth c b L xs Ec Em) (hL : L ≤ 3072) {R : td_D → td_D → Prop} (hs : ls_36 R) {i : Nat} (hi : i + 6 ≤ L) (ho : lw_ok Dc Dm) (hR : R Dc Dm) (next : ∀ Dc' Dm', lw_ok Dc' Dm' → R Dc' Dm' → lw_F p l e s m below meth c b Ec Em 1604 [tv_S 2, tv_R 1, tv_S 3, tv_I (i : Int)] [] Dc' Dm') : lw_F p l e s m below meth c b Ec Em 1236 [tv_S 2, tv_R 1, tv_S 3, tv_I (i : Int)] [] Dc Dm := by
  obtain ⟨r, D1, D2, e1, e2, hR2⟩ := hs ((xs (((i + 1 : Nat) : Int)).toNat).toInt) ((xs (((i + 2 : Nat) : Int)).toNat).toInt) ((xs (((i + 3 : Nat) : Int)).toNat).toInt) Dc Dm (tv_inI _) (tv_inI _) (tv_inI _) ho hR
  refine lg_aloadR (r := 0) (i := 1) C rfl rfl dL_law_1236 ?_
  refine lg_aloadS (i := 0) C rfl rfl dL_law_1237 ?_
  refine lg_iload (i := 3) C rfl rfl dL_law_1238 ?_
  refine lg_iconst C dL_law_1239 ?_
  refine lg_iadd (x := ((i + 1 : Nat) : Int)) C (by unfold tv_w; omega) dL_law_1240 ?_
  refine lg_iald C (lw_ix (by omega) (by omega)) dL_law_1241 ?_
  refine lg_aloadS (i := 0) C rfl rfl dL_law_1242 ?_
  refine lg_iload (i := 3) C rfl rfl dL_law_1243 ?_
  refine lg_iconst C dL_law_1244 ?_
  refine lg_iadd (x := ((i + 2 : Nat) : Int)) C (by unfold tv_w; omega) dL_law_1245 ?_
  refine lg_iald C (lw_ix (by omega) (by omega)) dL_law_1246 ?_
  refine lg_aloadS (i := 0) C rfl rfl dL_law_1247 ?_
  refine lg_iload (i := 3) C rfl rfl dL_law_1248 ?_
  refine lg_iconst C dL_law_1249 ?_
  refine lg_iadd (x := ((i + 3 : Nat) : Int)) C (by unfold tv_w; omega) dL_law_1250 ?_
  refine lg_iald C (lw_ix (by omega) (by omega)) dL_law_1251 ?_
  refine lg_callC (y2 := mX11_act) (as := [tv_I ((xs (((i + 1 : Nat) : Int)).toNat).toInt), tv_I ((xs (((i + 2 : Nat) : Int)).toNat).toInt), tv_I ((xs (((i + 3 : Nat) : Int)).toNat).toInt)]) (st := []) (d := 0) (T := TX11) C rfl tw_X11_act tx_X11_act tl_L_161 rfl rfl (Nat.le_of_ble_eq_true rfl) (by decide) dL_law_1252 (tv_c1 (tv_inI _) (tv_c1 (tv_inI _) (tv_c1 (tv_inI _) (fun v hv => by cases hv)))) ho.1 (S_X11_act l C.2.2.2.2.2.2.2.2.2.2.2.2.1 _ ((xs (((i + 1 : Nat) : Int)).toNat).toInt) ((xs (((i + 2 : Nat) : Int)).toNat).toInt) ((xs (((i + 3 : Nat) : Int)).toNat).toInt) Dc) e1 (fun oc => ?_)
  show lw_F p l e s m below meth c b Ec Em 1255 _ [tv_I r] D1 Dm
  refine lg_aloadS (i := 2) C rfl rfl dL_law_1255 ?_
  refine lg_aloadS (i := 0) C rfl rfl dL_law_1256 ?_
  refine lg_iload (i := 3) C rfl rfl dL_law_1257 ?_
  refine lg_iconst C dL_law_1258 ?_
  refine lg_iadd (x := ((i + 1 : Nat) : Int)) C (by unfold tv_w; omega) dL_law_1259 ?_
  refine lg_iald C (lw_ix (by omega) (by omega)) dL_law_1260 ?_
  refine lg_aloadS (i := 0) C rfl rfl dL_law_1261 ?_
  refine lg_iload (i := 3) C rfl rfl dL_law_1262 ?_
  refine lg_iconst C dL_law_1263 ?_
  refine lg_iadd (x := ((i + 2 : Nat) : Int)) C (by unfold tv_w; omega) dL_law_1264 ?_
  refine lg_iald C (lw_ix (by omega) (by omega)) dL_law_1265 ?_
  refine lg_aloadS (i := 0) C rfl rfl dL_law_1266 ?_
  refine lg_iload (i := 3) C rfl rfl dL_law_1267 ?_
  refine lg_iconst C dL_law_1268 ?_
  refine lg_iadd (x := ((i + 3 : Nat) : Int)) C (by unfold tv_w; omega) dL_law_1269 ?_
  refine lg_iald C (lw_ix (by omega) (by omega)) dL_law_1270 ?_
  refine lg_callM (y2 := mX12_act) (as := [tv_I ((xs (((i + 1 : Nat) : Int)).toNat).toInt), tv_I ((xs (((i + 2 : Nat) : Int)).toNat).toInt), tv_I ((xs (((i + 3 : Nat) : Int)).toNat).toInt)]) (st := [tv_I r]) C rfl tw_X12_act tx_X12_act tl_L_164 rfl rfl (Nat.le_of_ble_eq_true rfl) dL_law_1271 (tv_c1 (tv_inI _) (tv_c1 (tv_inI _) (tv_c1 (tv_inI _) (fun v hv => by cases hv)))) rfl ho.2 (S_X12_act l C.2.2.2.2.2.2.2.2.2.2.2.2.2 _ ((xs (((i + 1 : Nat) : Int)).toNat).toInt) ((xs (((i + 2 : Nat) : Int)).toNat).toInt) ((xs (((i + 3 : Nat) : Int)).toNat).toInt) Dm) e2 (fun om => ?_)
  show lw_F p l e s m below meth c b Ec Em 1274 _ [tv_I r, tv_I r] D1 D2
  exact lg_same (tgt := 1604) C rfl dL_law_1274 (next D1 D2 ⟨oc, om⟩ hR2)
set_option maxRecDepth 20000 in
theorem lc_37 (C : lw_C p s m meth c b L xs Ec Em) (hL : L ≤ 3072) {R : td_D → td_D → Prop} (hs : ls_37 R) {i : Nat} (hi : i + 6 ≤ L) (ho : lw_ok Dc Dm) (hR : R Dc Dm) (next : ∀ Dc' Dm', lw_ok Dc' Dm' → R Dc' Dm' → lw_F p l e s m below meth c b Ec Em 1604 [tv_S 2, tv_R 1, tv_S 3, tv_I (i : Int)] [] Dc' Dm') : lw_F p l e s m below meth c b Ec Em 1279 [tv_S 2, tv_R 1, tv_S 3, tv_I (i : Int)] [] Dc Dm := by
  obtain ⟨r, D1, D2, e1, e2, hR2⟩ := hs ((xs (((i + 1 : Nat) : Int)).toNat).toInt) Dc Dm (tv_inI _) ho hR
  refine lg_aloadR (r := 0) (i := 1) C rfl rfl dL_law_1279 ?_
  refine lg_aloadS (i := 0) C rfl rfl dL_law_1280 ?_
  refine lg_iload (i := 3) C rfl rfl dL_law_1281 ?_
  refine lg_iconst C dL_law_1282 ?_
  refine lg_iadd (x := ((i + 1 : Nat) : Int)) C (by unfold tv_w; omega) dL_law_1283 ?_
  refine lg_iald C (lw_ix (by omega) (by omega)) dL_law_1284 ?_
  refine lg_callC (y2 := mX11_trace) (as := [tv_I ((xs (((i + 1 : Nat) : Int)).toNat).toInt)]) (st := []) (d := 0) (T := TX11) C rfl tw_X11_trace tx_X11_trace tl_L_165 rfl rfl (Nat.le_of_ble_eq_true rfl) (by decide) dL_law_1285 (tv_c1 (tv_inI _) (fun v hv => by cases hv)) ho.1 (S_X11_trace l C.2.2.2.2.2.2.2.2.2.2.2.2.1 _ ((xs (((i + 1 : Nat) : Int)).toNat).toInt) Dc) e1 (fun oc => ?_)
  show lw_F p l e s m below meth c b Ec Em 1288 _ [tv_I r] D1 Dm
  refine lg_aloadS (i := 2) C rfl rfl dL_law_1288 ?_
  refine lg_aloadS (i := 0) C rfl rfl dL_law_1289 ?_
  refine lg_iload (i := 3) C rfl rfl dL_law_1290 ?_
  refine lg_iconst C dL_law_1291 ?_
  refine lg_iadd (x := ((i + 1 : Nat) : Int)) C (by unfold tv_w; omega) dL_law_1292 ?_
  refine lg_iald C (lw_ix (by omega) (by omega)) dL_law_1293 ?_
  refine lg_callM (y2 := mX12_trace) (as := [tv_I ((xs (((i + 1 : Nat) : Int)).toNat).toInt)]) (st := [tv_I r]) C rfl tw_X12_trace tx_X12_trace tl_L_168 rfl rfl (Nat.le_of_ble_eq_true rfl) dL_law_1294 (tv_c1 (tv_inI _) (fun v hv => by cases hv)) rfl ho.2 (S_X12_trace l C.2.2.2.2.2.2.2.2.2.2.2.2.2 _ ((xs (((i + 1 : Nat) : Int)).toNat).toInt) Dm) e2 (fun om => ?_)
  show lw_F p l e s m below meth c b Ec Em 1297 _ [tv_I r, tv_I r] D1 D2
  exact lg_same (tgt := 1604) C rfl dL_law_1297 (next D1 D2 ⟨oc, om⟩ hR2)
set_option maxRecDepth 20000 in
theorem lc_38 (C : lw_C p s m meth c b L xs Ec Em) (hL : L ≤ 3072) {R : td_D → td_D → Prop} (hs : ls_38 R) {i : Nat} (hi : i + 6 ≤ L) (ho : lw_ok Dc Dm) (hR : R Dc Dm) (next : ∀ Dc' Dm', lw_ok Dc' Dm' → R Dc' Dm' → lw_F p l e s m below meth c b Ec Em 1604 [tv_S 2, tv_R 1, tv_S 3, tv_I (i : Int)] [] Dc' Dm') : lw_F p l e s m below meth c b Ec Em 1302 [tv_S 2, tv_R 1, tv_S 3, tv_I (i : Int)] [] Dc Dm := by
  obtain ⟨r, D1, D2, e1, e2, hR2⟩ := hs ((xs (((i + 1 : Nat) : Int)).toNat).toInt) ((xs (((i + 2 : Nat) : Int)).toNat).toInt) Dc Dm (tv_inI _) (tv_inI _) ho hR
  refine lg_aloadR (r := 0) (i := 1) C rfl rfl dL_law_1302 ?_
  refine lg_aloadS (i := 0) C rfl rfl dL_law_1303 ?_
  refine lg_iload (i := 3) C rfl rfl dL_law_1304 ?_
  refine lg_iconst C dL_law_1305 ?_
  refine lg_iadd (x := ((i + 1 : Nat) : Int)) C (by unfold tv_w; omega) dL_law_1306 ?_
  refine lg_iald C (lw_ix (by omega) (by omega)) dL_law_1307 ?_
  refine lg_aloadS (i := 0) C rfl rfl dL_law_1308 ?_
  refine lg_iload (i := 3) C rfl rfl dL_law_1309 ?_
  refine lg_iconst C dL_law_1310 ?_
  refine lg_iadd (x := ((i + 2 : Nat) : Int)) C (by unfold tv_w; omega) dL_law_1311 ?_
  refine lg_iald C (lw_ix (by omega) (by omega)) dL_law_1312 ?_
  refine lg_callC (y2 := mX11_keep) (as := [tv_I ((xs (((i + 1 : Nat) : Int)).toNat).toInt), tv_I ((xs (((i + 2 : Nat) : Int)).toNat).toInt)]) (st := []) (d := 0) (T := TX11) C rfl tw_X11_keep tx_X11_keep tl_L_169 rfl rfl (Nat.le_of_ble_eq_true rfl) (by decide) dL_law_1313 (tv_c1 (tv_inI _) (tv_c1 (tv_inI _) (fun v hv => by cases hv))) ho.1 (S_X11_keep l C.2.2.2.2.2.2.2.2.2.2.2.2.1 _ ((xs (((i + 1 : Nat) : Int)).toNat).toInt) ((xs (((i + 2 : Nat) : Int)).toNat).toInt) Dc) e1 (fun oc => ?_)
  show lw_F p l e s m below meth c b Ec Em 1316 _ [tv_I r] D1 Dm
  refine lg_aloadS (i := 2) C rfl rfl dL_law_1316 ?_
  refine lg_aloadS (i := 0) C rfl rfl dL_law_1317 ?_
  refine lg_iload (i := 3) C rfl rfl dL_law_1318 ?_
  refine lg_iconst C dL_law_1319 ?_
  refine lg_iadd (x := ((i + 1 : Nat) : Int)) C (by unfold tv_w; omega) dL_law_1320 ?_
  refine lg_iald C (lw_ix (by omega) (by omega)) dL_law_1321 ?_
  refine lg_aloadS (i := 0) C rfl rfl dL_law_1322 ?_
  refine lg_iload (i := 3) C rfl rfl dL_law_1323 ?_
  refine lg_iconst C dL_law_1324 ?_
  refine lg_iadd (x := ((i + 2 : Nat) : Int)) C (by unfold tv_w; omega) dL_law_1325 ?_
  refine lg_iald C (lw_ix (by omega) (by omega)) dL_law_1326 ?_
  refine lg_callM (y2 := mX12_keep) (as := [tv_I ((xs (((i + 1 : Nat) : Int)).toNat).toInt), tv_I ((xs (((i + 2 : Nat) : Int)).toNat).toInt)]) (st := [tv_I r]) C rfl tw_X12_keep tx_X12_keep tl_L_172 rfl rfl (Nat.le_of_ble_eq_true rfl) dL_law_1327 (tv_c1 (tv_inI _) (tv_c1 (tv_inI _) (fun v hv => by cases hv))) rfl ho.2 (S_X12_keep l C.2.2.2.2.2.2.2.2.2.2.2.2.2 _ ((xs (((i + 1 : Nat) : Int)).toNat).toInt) ((xs (((i + 2 : Nat) : Int)).toNat).toInt) Dm) e2 (fun om => ?_)
  show lw_F p l e s m below meth c b Ec Em 1330 _ [tv_I r, tv_I r] D1 D2
  exact lg_same (tgt := 1604) C rfl dL_law_1330 (next D1 D2 ⟨oc, om⟩ hR2)
set_option maxRecDepth 20000 in
theorem lc_39 (C : lw_C p s m meth c b L xs Ec Em) (hL : L ≤ 3072) {R : td_D → td_D → Prop} (hs : ls_39 R) {i : Nat} (hi : i + 6 ≤ L) (ho : lw_ok Dc Dm) (hR : R Dc Dm) (next : ∀ Dc' Dm', lw_ok Dc' Dm' → R Dc' Dm' → lw_F p l e s m below meth c b Ec Em 1604 [tv_S 2, tv_R 1, tv_S 3, tv_I (i : Int)] [] Dc' Dm') : lw_F p l e s m below meth c b Ec Em 1335 [tv_S 2, tv_R 1, tv_S 3, tv_I (i : Int)] [] Dc Dm := by
  obtain ⟨r, D1, D2, e1, e2, hR2⟩ := hs ((xs (((i + 1 : Nat) : Int)).toNat).toInt) ((xs (((i + 2 : Nat) : Int)).toNat).toInt) ((xs (((i + 3 : Nat) : Int)).toNat).toInt) Dc Dm (tv_inI _) (tv_inI _) (tv_inI _) ho hR
  refine lg_aloadR (r := 0) (i := 1) C rfl rfl dL_law_1335 ?_
  refine lg_aloadS (i := 0) C rfl rfl dL_law_1336 ?_
  refine lg_iload (i := 3) C rfl rfl dL_law_1337 ?_
  refine lg_iconst C dL_law_1338 ?_
  refine lg_iadd (x := ((i + 1 : Nat) : Int)) C (by unfold tv_w; omega) dL_law_1339 ?_
  refine lg_iald C (lw_ix (by omega) (by omega)) dL_law_1340 ?_
  refine lg_aloadS (i := 0) C rfl rfl dL_law_1341 ?_
  refine lg_iload (i := 3) C rfl rfl dL_law_1342 ?_
  refine lg_iconst C dL_law_1343 ?_
  refine lg_iadd (x := ((i + 2 : Nat) : Int)) C (by unfold tv_w; omega) dL_law_1344 ?_
  refine lg_iald C (lw_ix (by omega) (by omega)) dL_law_1345 ?_
  refine lg_aloadS (i := 0) C rfl rfl dL_law_1346 ?_
  refine lg_iload (i := 3) C rfl rfl dL_law_1347 ?_
  refine lg_iconst C dL_law_1348 ?_
  refine lg_iadd (x := ((i + 3 : Nat) : Int)) C (by unfold tv_w; omega) dL_law_1349 ?_
  refine lg_iald C (lw_ix (by omega) (by omega)) dL_law_1350 ?_
  refine lg_callC (y2 := mX11_row) (as := [tv_I ((xs (((i + 1 : Nat) : Int)).toNat).toInt), tv_I ((xs (((i + 2 : Nat) : Int)).toNat).toInt), tv_I ((xs (((i + 3 : Nat) : Int)).toNat).toInt)]) (st := []) (d := 0) (T := TX11) C rfl tw_X11_row tx_X11_row tl_L_173 rfl rfl (Nat.le_of_ble_eq_true rfl) (by decide) dL_law_1351 (tv_c1 (tv_inI _) (tv_c1 (tv_inI _) (tv_c1 (tv_inI _) (fun v hv => by cases hv)))) ho.1 (S_X11_row l C.2.2.2.2.2.2.2.2.2.2.2.2.1 _ ((xs (((i + 1 : Nat) : Int)).toNat).toInt) ((xs (((i + 2 : Nat) : Int)).toNat).toInt) ((xs (((i + 3 : Nat) : Int)).toNat).toInt) Dc) e1 (fun oc => ?_)
  show lw_F p l e s m below meth c b Ec Em 1354 _ [tv_I r] D1 Dm
  refine lg_aloadS (i := 2) C rfl rfl dL_law_1354 ?_
  refine lg_aloadS (i := 0) C rfl rfl dL_law_1355 ?_
  refine lg_iload (i := 3) C rfl rfl dL_law_1356 ?_
  refine lg_iconst C dL_law_1357 ?_
  refine lg_iadd (x := ((i + 1 : Nat) : Int)) C (by unfold tv_w; omega) dL_law_1358 ?_
  refine lg_iald C (lw_ix (by omega) (by omega)) dL_law_1359 ?_
  refine lg_aloadS (i := 0) C rfl rfl dL_law_1360 ?_
  refine lg_iload (i := 3) C rfl rfl dL_law_1361 ?_
  refine lg_iconst C dL_law_1362 ?_
  refine lg_iadd (x := ((i + 2 : Nat) : Int)) C (by unfold tv_w; omega) dL_law_1363 ?_
  refine lg_iald C (lw_ix (by omega) (by omega)) dL_law_1364 ?_
  refine lg_aloadS (i := 0) C rfl rfl dL_law_1365 ?_
  refine lg_iload (i := 3) C rfl rfl dL_law_1366 ?_
  refine lg_iconst C dL_law_1367 ?_
  refine lg_iadd (x := ((i + 3 : Nat) : Int)) C (by unfold tv_w; omega) dL_law_1368 ?_
  refine lg_iald C (lw_ix (by omega) (by omega)) dL_law_1369 ?_
  refine lg_callM (y2 := mX12_row) (as := [tv_I ((xs (((i + 1 : Nat) : Int)).toNat).toInt), tv_I ((xs (((i + 2 : Nat) : Int)).toNat).toInt), tv_I ((xs (((i + 3 : Nat) : Int)).toNat).toInt)]) (st := [tv_I r]) C rfl tw_X12_row tx_X12_row tl_L_176 rfl rfl (Nat.le_of_ble_eq_true rfl) dL_law_1370 (tv_c1 (tv_inI _) (tv_c1 (tv_inI _) (tv_c1 (tv_inI _) (fun v hv => by cases hv)))) rfl ho.2 (S_X12_row l C.2.2.2.2.2.2.2.2.2.2.2.2.2 _ ((xs (((i + 1 : Nat) : Int)).toNat).toInt) ((xs (((i + 2 : Nat) : Int)).toNat).toInt) ((xs (((i + 3 : Nat) : Int)).toNat).toInt) Dm) e2 (fun om => ?_)
  show lw_F p l e s m below meth c b Ec Em 1373 _ [tv_I r, tv_I r] D1 D2
  exact lg_same (tgt := 1604) C rfl dL_law_1373 (next D1 D2 ⟨oc, om⟩ hR2)
set_option maxRecDepth 20000 in
theorem lc_40 (C : lw_C p s m meth c b L xs Ec Em) (hL : L ≤ 3072) {R : td_D → td_D → Prop} (hs : ls_40 R) {i : Nat} (hi : i + 6 ≤ L) (ho : lw_ok Dc Dm) (hR : R Dc Dm) (next : ∀ Dc' Dm', lw_ok Dc' Dm' → R Dc' Dm' → lw_F p l e s m below meth c b Ec Em 1604 [tv_S 2, tv_R 1, tv_S 3, tv_I (i : Int)] [] Dc' Dm') : lw_F p l e s m below meth c b Ec Em 1378 [tv_S 2, tv_R 1, tv_S 3, tv_I (i : Int)] [] Dc Dm := by
  obtain ⟨r, D1, D2, e1, e2, hR2⟩ := hs ((xs (((i + 1 : Nat) : Int)).toNat).toInt) ((xs (((i + 2 : Nat) : Int)).toNat).toInt) (tv_lorl (tv_shll (xs (((i + 3 : Nat) : Int)).toNat).toInt 32) (tv_landl (xs (((i + 4 : Nat) : Int)).toNat).toInt 4294967295)) Dc Dm (tv_inI _) (tv_inI _) (tv_inJ _) ho hR
  refine lg_aloadR (r := 0) (i := 1) C rfl rfl dL_law_1378 ?_
  refine lg_aloadS (i := 0) C rfl rfl dL_law_1379 ?_
  refine lg_iload (i := 3) C rfl rfl dL_law_1380 ?_
  refine lg_iconst C dL_law_1381 ?_
  refine lg_iadd (x := ((i + 1 : Nat) : Int)) C (by unfold tv_w; omega) dL_law_1382 ?_
  refine lg_iald C (lw_ix (by omega) (by omega)) dL_law_1383 ?_
  refine lg_aloadS (i := 0) C rfl rfl dL_law_1384 ?_
  refine lg_iload (i := 3) C rfl rfl dL_law_1385 ?_
  refine lg_iconst C dL_law_1386 ?_
  refine lg_iadd (x := ((i + 2 : Nat) : Int)) C (by unfold tv_w; omega) dL_law_1387 ?_
  refine lg_iald C (lw_ix (by omega) (by omega)) dL_law_1388 ?_
  refine lg_aloadS (i := 0) C rfl rfl dL_law_1389 ?_
  refine lg_iload (i := 3) C rfl rfl dL_law_1390 ?_
  refine lg_iconst C dL_law_1391 ?_
  refine lg_iadd (x := ((i + 3 : Nat) : Int)) C (by unfold tv_w; omega) dL_law_1392 ?_
  refine lg_iald C (lw_ix (by omega) (by omega)) dL_law_1393 ?_
  refine lg_i2l C (tv_inI _) dL_law_1394 ?_
  refine lg_bipush C rfl dL_law_1395 ?_
  refine lg_lshl C dL_law_1397 ?_
  refine lg_aloadS (i := 0) C rfl rfl dL_law_1398 ?_
  refine lg_iload (i := 3) C rfl rfl dL_law_1399 ?_
  refine lg_iconst C dL_law_1400 ?_
  refine lg_iadd (x := ((i + 4 : Nat) : Int)) C (by unfold tv_w; omega) dL_law_1401 ?_
  refine lg_iald C (lw_ix (by omega) (by omega)) dL_law_1402 ?_
  refine lg_i2l C (tv_inI _) dL_law_1403 ?_
  refine lg_ldc2 C tl_L_177 dL_law_1404 ?_
  refine lg_land C dL_law_1407 ?_
  refine lg_lor C dL_law_1408 ?_
  refine lg_callC (y2 := mX11_put) (as := [tv_I ((xs (((i + 1 : Nat) : Int)).toNat).toInt), tv_I ((xs (((i + 2 : Nat) : Int)).toNat).toInt), tv_J (tv_lorl (tv_shll (xs (((i + 3 : Nat) : Int)).toNat).toInt 32) (tv_landl (xs (((i + 4 : Nat) : Int)).toNat).toInt 4294967295))]) (st := []) (d := 0) (T := TX11) C rfl tw_X11_put tx_X11_put tl_L_179 rfl rfl (Nat.le_of_ble_eq_true rfl) (by decide) dL_law_1409 (tv_c1 (tv_inI _) (tv_c1 (tv_inI _) (tv_c1 (tv_inJ _) (fun v hv => by cases hv)))) ho.1 (S_X11_put l C.2.2.2.2.2.2.2.2.2.2.2.2.1 _ ((xs (((i + 1 : Nat) : Int)).toNat).toInt) ((xs (((i + 2 : Nat) : Int)).toNat).toInt) (tv_lorl (tv_shll (xs (((i + 3 : Nat) : Int)).toNat).toInt 32) (tv_landl (xs (((i + 4 : Nat) : Int)).toNat).toInt 4294967295)) Dc) e1 (fun oc => ?_)
  show lw_F p l e s m below meth c b Ec Em 1412 _ [tv_I r] D1 Dm
  refine lg_aloadS (i := 2) C rfl rfl dL_law_1412 ?_
  refine lg_aloadS (i := 0) C rfl rfl dL_law_1413 ?_
  refine lg_iload (i := 3) C rfl rfl dL_law_1414 ?_
  refine lg_iconst C dL_law_1415 ?_
  refine lg_iadd (x := ((i + 1 : Nat) : Int)) C (by unfold tv_w; omega) dL_law_1416 ?_
  refine lg_iald C (lw_ix (by omega) (by omega)) dL_law_1417 ?_
  refine lg_aloadS (i := 0) C rfl rfl dL_law_1418 ?_
  refine lg_iload (i := 3) C rfl rfl dL_law_1419 ?_
  refine lg_iconst C dL_law_1420 ?_
  refine lg_iadd (x := ((i + 2 : Nat) : Int)) C (by unfold tv_w; omega) dL_law_1421 ?_
  refine lg_iald C (lw_ix (by omega) (by omega)) dL_law_1422 ?_
  refine lg_aloadS (i := 0) C rfl rfl dL_law_1423 ?_
  refine lg_iload (i := 3) C rfl rfl dL_law_1424 ?_
  refine lg_iconst C dL_law_1425 ?_
  refine lg_iadd (x := ((i + 3 : Nat) : Int)) C (by unfold tv_w; omega) dL_law_1426 ?_
  refine lg_iald C (lw_ix (by omega) (by omega)) dL_law_1427 ?_
  refine lg_i2l C (tv_inI _) dL_law_1428 ?_
  refine lg_bipush C rfl dL_law_1429 ?_
  refine lg_lshl C dL_law_1431 ?_
  refine lg_aloadS (i := 0) C rfl rfl dL_law_1432 ?_
  refine lg_iload (i := 3) C rfl rfl dL_law_1433 ?_
  refine lg_iconst C dL_law_1434 ?_
  refine lg_iadd (x := ((i + 4 : Nat) : Int)) C (by unfold tv_w; omega) dL_law_1435 ?_
  refine lg_iald C (lw_ix (by omega) (by omega)) dL_law_1436 ?_
  refine lg_i2l C (tv_inI _) dL_law_1437 ?_
  refine lg_ldc2 C tl_L_177 dL_law_1438 ?_
  refine lg_land C dL_law_1441 ?_
  refine lg_lor C dL_law_1442 ?_
  refine lg_callM (y2 := mX12_put) (as := [tv_I ((xs (((i + 1 : Nat) : Int)).toNat).toInt), tv_I ((xs (((i + 2 : Nat) : Int)).toNat).toInt), tv_J (tv_lorl (tv_shll (xs (((i + 3 : Nat) : Int)).toNat).toInt 32) (tv_landl (xs (((i + 4 : Nat) : Int)).toNat).toInt 4294967295))]) (st := [tv_I r]) C rfl tw_X12_put tx_X12_put tl_L_183 rfl rfl (Nat.le_of_ble_eq_true rfl) dL_law_1443 (tv_c1 (tv_inI _) (tv_c1 (tv_inI _) (tv_c1 (tv_inJ _) (fun v hv => by cases hv)))) rfl ho.2 (S_X12_put l C.2.2.2.2.2.2.2.2.2.2.2.2.2 _ ((xs (((i + 1 : Nat) : Int)).toNat).toInt) ((xs (((i + 2 : Nat) : Int)).toNat).toInt) (tv_lorl (tv_shll (xs (((i + 3 : Nat) : Int)).toNat).toInt 32) (tv_landl (xs (((i + 4 : Nat) : Int)).toNat).toInt 4294967295)) Dm) e2 (fun om => ?_)
  show lw_F p l e s m below meth c b Ec Em 1446 _ [tv_I r, tv_I r] D1 D2
  exact lg_same (tgt := 1604) C rfl dL_law_1446 (next D1 D2 ⟨oc, om⟩ hR2)
set_option maxRecDepth 20000 in
theorem lc_41 (C : lw_C p s m meth c b L xs Ec Em) (hL : L ≤ 3072) {R : td_D → td_D → Prop} (hs : ls_41 R) {i : Nat} (hi : i + 6 ≤ L) (ho : lw_ok Dc Dm) (hR : R Dc Dm) (next : ∀ Dc' Dm', lw_ok Dc' Dm' → R Dc' Dm' → lw_F p l e s m below meth c b Ec Em 1604 [tv_S 2, tv_R 1, tv_S 3, tv_I (i : Int)] [] Dc' Dm') : lw_F p l e s m below meth c b Ec Em 1451 [tv_S 2, tv_R 1, tv_S 3, tv_I (i : Int)] [] Dc Dm := by
  obtain ⟨r, D1, D2, e1, e2, hR2⟩ := hs ((xs (((i + 1 : Nat) : Int)).toNat).toInt) ((xs (((i + 2 : Nat) : Int)).toNat).toInt) Dc Dm (tv_inI _) (tv_inI _) ho hR
  refine lg_aloadR (r := 0) (i := 1) C rfl rfl dL_law_1451 ?_
  refine lg_aloadS (i := 0) C rfl rfl dL_law_1452 ?_
  refine lg_iload (i := 3) C rfl rfl dL_law_1453 ?_
  refine lg_iconst C dL_law_1454 ?_
  refine lg_iadd (x := ((i + 1 : Nat) : Int)) C (by unfold tv_w; omega) dL_law_1455 ?_
  refine lg_iald C (lw_ix (by omega) (by omega)) dL_law_1456 ?_
  refine lg_aloadS (i := 0) C rfl rfl dL_law_1457 ?_
  refine lg_iload (i := 3) C rfl rfl dL_law_1458 ?_
  refine lg_iconst C dL_law_1459 ?_
  refine lg_iadd (x := ((i + 2 : Nat) : Int)) C (by unfold tv_w; omega) dL_law_1460 ?_
  refine lg_iald C (lw_ix (by omega) (by omega)) dL_law_1461 ?_
  refine lg_callC (y2 := mX11_element) (as := [tv_I ((xs (((i + 1 : Nat) : Int)).toNat).toInt), tv_I ((xs (((i + 2 : Nat) : Int)).toNat).toInt)]) (st := []) (d := 0) (T := TX11) C rfl tw_X11_element tx_X11_element tl_L_184 rfl rfl (Nat.le_of_ble_eq_true rfl) (by decide) dL_law_1462 (tv_c1 (tv_inI _) (tv_c1 (tv_inI _) (fun v hv => by cases hv))) ho.1 (S_X11_element l C.2.2.2.2.2.2.2.2.2.2.2.2.1 _ ((xs (((i + 1 : Nat) : Int)).toNat).toInt) ((xs (((i + 2 : Nat) : Int)).toNat).toInt) Dc) e1 (fun oc => ?_)
  show lw_F p l e s m below meth c b Ec Em 1465 _ [tv_J r] D1 Dm
  refine lg_aloadS (i := 2) C rfl rfl dL_law_1465 ?_
  refine lg_aloadS (i := 0) C rfl rfl dL_law_1466 ?_
  refine lg_iload (i := 3) C rfl rfl dL_law_1467 ?_
  refine lg_iconst C dL_law_1468 ?_
  refine lg_iadd (x := ((i + 1 : Nat) : Int)) C (by unfold tv_w; omega) dL_law_1469 ?_
  refine lg_iald C (lw_ix (by omega) (by omega)) dL_law_1470 ?_
  refine lg_aloadS (i := 0) C rfl rfl dL_law_1471 ?_
  refine lg_iload (i := 3) C rfl rfl dL_law_1472 ?_
  refine lg_iconst C dL_law_1473 ?_
  refine lg_iadd (x := ((i + 2 : Nat) : Int)) C (by unfold tv_w; omega) dL_law_1474 ?_
  refine lg_iald C (lw_ix (by omega) (by omega)) dL_law_1475 ?_
  refine lg_callM (y2 := mX12_element) (as := [tv_I ((xs (((i + 1 : Nat) : Int)).toNat).toInt), tv_I ((xs (((i + 2 : Nat) : Int)).toNat).toInt)]) (st := [tv_J r]) C rfl tw_X12_element tx_X12_element tl_L_188 rfl rfl (Nat.le_of_ble_eq_true rfl) dL_law_1476 (tv_c1 (tv_inI _) (tv_c1 (tv_inI _) (fun v hv => by cases hv))) rfl ho.2 (S_X12_element l C.2.2.2.2.2.2.2.2.2.2.2.2.2 _ ((xs (((i + 1 : Nat) : Int)).toNat).toInt) ((xs (((i + 2 : Nat) : Int)).toNat).toInt) Dm) e2 (fun om => ?_)
  show lw_F p l e s m below meth c b Ec Em 1479 _ [tv_J r, tv_J r] D1 D2
  exact lg_sameL (tgt := 1604) C rfl dL_law_1479 dL_law_1480 (next D1 D2 ⟨oc, om⟩ hR2)
set_option maxRecDepth 20000 in
theorem lc_42 (C : lw_C p s m meth c b L xs Ec Em) (hL : L ≤ 3072) {R : td_D → td_D → Prop} (hs : ls_42 R) {i : Nat} (hi : i + 6 ≤ L) (ho : lw_ok Dc Dm) (hR : R Dc Dm) (next : ∀ Dc' Dm', lw_ok Dc' Dm' → R Dc' Dm' → lw_F p l e s m below meth c b Ec Em 1604 [tv_S 2, tv_R 1, tv_S 3, tv_I (i : Int)] [] Dc' Dm') : lw_F p l e s m below meth c b Ec Em 1485 [tv_S 2, tv_R 1, tv_S 3, tv_I (i : Int)] [] Dc Dm := by
  obtain ⟨r, D1, D2, e1, e2, hR2⟩ := hs ((xs (((i + 1 : Nat) : Int)).toNat).toInt) ((xs (((i + 2 : Nat) : Int)).toNat).toInt) ((xs (((i + 3 : Nat) : Int)).toNat).toInt) ((xs (((i + 4 : Nat) : Int)).toNat).toInt) ((xs (((i + 5 : Nat) : Int)).toNat).toInt) Dc Dm (tv_inI _) (tv_inI _) (tv_inI _) (tv_inI _) (tv_inI _) ho hR
  refine lg_aloadR (r := 0) (i := 1) C rfl rfl dL_law_1485 ?_
  refine lg_aloadS (i := 0) C rfl rfl dL_law_1486 ?_
  refine lg_iload (i := 3) C rfl rfl dL_law_1487 ?_
  refine lg_iconst C dL_law_1488 ?_
  refine lg_iadd (x := ((i + 1 : Nat) : Int)) C (by unfold tv_w; omega) dL_law_1489 ?_
  refine lg_iald C (lw_ix (by omega) (by omega)) dL_law_1490 ?_
  refine lg_aloadS (i := 0) C rfl rfl dL_law_1491 ?_
  refine lg_iload (i := 3) C rfl rfl dL_law_1492 ?_
  refine lg_iconst C dL_law_1493 ?_
  refine lg_iadd (x := ((i + 2 : Nat) : Int)) C (by unfold tv_w; omega) dL_law_1494 ?_
  refine lg_iald C (lw_ix (by omega) (by omega)) dL_law_1495 ?_
  refine lg_aloadS (i := 0) C rfl rfl dL_law_1496 ?_
  refine lg_iload (i := 3) C rfl rfl dL_law_1497 ?_
  refine lg_iconst C dL_law_1498 ?_
  refine lg_iadd (x := ((i + 3 : Nat) : Int)) C (by unfold tv_w; omega) dL_law_1499 ?_
  refine lg_iald C (lw_ix (by omega) (by omega)) dL_law_1500 ?_
  refine lg_aloadS (i := 0) C rfl rfl dL_law_1501 ?_
  refine lg_iload (i := 3) C rfl rfl dL_law_1502 ?_
  refine lg_iconst C dL_law_1503 ?_
  refine lg_iadd (x := ((i + 4 : Nat) : Int)) C (by unfold tv_w; omega) dL_law_1504 ?_
  refine lg_iald C (lw_ix (by omega) (by omega)) dL_law_1505 ?_
  refine lg_aloadS (i := 0) C rfl rfl dL_law_1506 ?_
  refine lg_iload (i := 3) C rfl rfl dL_law_1507 ?_
  refine lg_iconst C dL_law_1508 ?_
  refine lg_iadd (x := ((i + 5 : Nat) : Int)) C (by unfold tv_w; omega) dL_law_1509 ?_
  refine lg_iald C (lw_ix (by omega) (by omega)) dL_law_1510 ?_
  refine lg_callC (y2 := mX11_shift) (as := [tv_I ((xs (((i + 1 : Nat) : Int)).toNat).toInt), tv_I ((xs (((i + 2 : Nat) : Int)).toNat).toInt), tv_I ((xs (((i + 3 : Nat) : Int)).toNat).toInt), tv_I ((xs (((i + 4 : Nat) : Int)).toNat).toInt), tv_I ((xs (((i + 5 : Nat) : Int)).toNat).toInt)]) (st := []) (d := 0) (T := TX11) C rfl tw_X11_shift tx_X11_shift tl_L_189 rfl rfl (Nat.le_of_ble_eq_true rfl) (by decide) dL_law_1511 (tv_c1 (tv_inI _) (tv_c1 (tv_inI _) (tv_c1 (tv_inI _) (tv_c1 (tv_inI _) (tv_c1 (tv_inI _) (fun v hv => by cases hv)))))) ho.1 (S_X11_shift l C.2.2.2.2.2.2.2.2.2.2.2.2.1 _ ((xs (((i + 1 : Nat) : Int)).toNat).toInt) ((xs (((i + 2 : Nat) : Int)).toNat).toInt) ((xs (((i + 3 : Nat) : Int)).toNat).toInt) ((xs (((i + 4 : Nat) : Int)).toNat).toInt) ((xs (((i + 5 : Nat) : Int)).toNat).toInt) Dc) e1 (fun oc => ?_)
  show lw_F p l e s m below meth c b Ec Em 1514 _ [tv_I r] D1 Dm
  refine lg_aloadS (i := 2) C rfl rfl dL_law_1514 ?_
  refine lg_aloadS (i := 0) C rfl rfl dL_law_1515 ?_
  refine lg_iload (i := 3) C rfl rfl dL_law_1516 ?_
  refine lg_iconst C dL_law_1517 ?_
  refine lg_iadd (x := ((i + 1 : Nat) : Int)) C (by unfold tv_w; omega) dL_law_1518 ?_
  refine lg_iald C (lw_ix (by omega) (by omega)) dL_law_1519 ?_
  refine lg_aloadS (i := 0) C rfl rfl dL_law_1520 ?_
  refine lg_iload (i := 3) C rfl rfl dL_law_1521 ?_
  refine lg_iconst C dL_law_1522 ?_
  refine lg_iadd (x := ((i + 2 : Nat) : Int)) C (by unfold tv_w; omega) dL_law_1523 ?_
  refine lg_iald C (lw_ix (by omega) (by omega)) dL_law_1524 ?_
  refine lg_aloadS (i := 0) C rfl rfl dL_law_1525 ?_
  refine lg_iload (i := 3) C rfl rfl dL_law_1526 ?_
  refine lg_iconst C dL_law_1527 ?_
  refine lg_iadd (x := ((i + 3 : Nat) : Int)) C (by unfold tv_w; omega) dL_law_1528 ?_
  refine lg_iald C (lw_ix (by omega) (by omega)) dL_law_1529 ?_
  refine lg_aloadS (i := 0) C rfl rfl dL_law_1530 ?_
  refine lg_iload (i := 3) C rfl rfl dL_law_1531 ?_
  refine lg_iconst C dL_law_1532 ?_
  refine lg_iadd (x := ((i + 4 : Nat) : Int)) C (by unfold tv_w; omega) dL_law_1533 ?_
  refine lg_iald C (lw_ix (by omega) (by omega)) dL_law_1534 ?_
  refine lg_aloadS (i := 0) C rfl rfl dL_law_1535 ?_
  refine lg_iload (i := 3) C rfl rfl dL_law_1536 ?_
  refine lg_iconst C dL_law_1537 ?_
  refine lg_iadd (x := ((i + 5 : Nat) : Int)) C (by unfold tv_w; omega) dL_law_1538 ?_
  refine lg_iald C (lw_ix (by omega) (by omega)) dL_law_1539 ?_
  refine lg_callM (y2 := mX12_shift) (as := [tv_I ((xs (((i + 1 : Nat) : Int)).toNat).toInt), tv_I ((xs (((i + 2 : Nat) : Int)).toNat).toInt), tv_I ((xs (((i + 3 : Nat) : Int)).toNat).toInt), tv_I ((xs (((i + 4 : Nat) : Int)).toNat).toInt), tv_I ((xs (((i + 5 : Nat) : Int)).toNat).toInt)]) (st := [tv_I r]) C rfl tw_X12_shift tx_X12_shift tl_L_193 rfl rfl (Nat.le_of_ble_eq_true rfl) dL_law_1540 (tv_c1 (tv_inI _) (tv_c1 (tv_inI _) (tv_c1 (tv_inI _) (tv_c1 (tv_inI _) (tv_c1 (tv_inI _) (fun v hv => by cases hv)))))) rfl ho.2 (S_X12_shift l C.2.2.2.2.2.2.2.2.2.2.2.2.2 _ ((xs (((i + 1 : Nat) : Int)).toNat).toInt) ((xs (((i + 2 : Nat) : Int)).toNat).toInt) ((xs (((i + 3 : Nat) : Int)).toNat).toInt) ((xs (((i + 4 : Nat) : Int)).toNat).toInt) ((xs (((i + 5 : Nat) : Int)).toNat).toInt) Dm) e2 (fun om => ?_)
  show lw_F p l e s m below meth c b Ec Em 1543 _ [tv_I r, tv_I r] D1 D2
  exact lg_same (tgt := 1604) C rfl dL_law_1543 (next D1 D2 ⟨oc, om⟩ hR2)
set_option maxRecDepth 20000 in
theorem lc_43 (C : lw_C p s m meth c b L xs Ec Em) (hL : L ≤ 3072) {R : td_D → td_D → Prop} (hs : ls_43 R) {i : Nat} (hi : i + 6 ≤ L) (ho : lw_ok Dc Dm) (hR : R Dc Dm) (next : ∀ Dc' Dm', lw_ok Dc' Dm' → R Dc' Dm' → lw_F p l e s m below meth c b Ec Em 1604 [tv_S 2, tv_R 1, tv_S 3, tv_I (i : Int)] [] Dc' Dm') : lw_F p l e s m below meth c b Ec Em 1548 [tv_S 2, tv_R 1, tv_S 3, tv_I (i : Int)] [] Dc Dm := by
  obtain ⟨r, D1, D2, e1, e2, hR2⟩ := hs ((xs (((i + 1 : Nat) : Int)).toNat).toInt) ((xs (((i + 2 : Nat) : Int)).toNat).toInt) Dc Dm (tv_inI _) (tv_inI _) ho hR
  refine lg_aloadR (r := 0) (i := 1) C rfl rfl dL_law_1548 ?_
  refine lg_aloadS (i := 0) C rfl rfl dL_law_1549 ?_
  refine lg_iload (i := 3) C rfl rfl dL_law_1550 ?_
  refine lg_iconst C dL_law_1551 ?_
  refine lg_iadd (x := ((i + 1 : Nat) : Int)) C (by unfold tv_w; omega) dL_law_1552 ?_
  refine lg_iald C (lw_ix (by omega) (by omega)) dL_law_1553 ?_
  refine lg_aloadS (i := 0) C rfl rfl dL_law_1554 ?_
  refine lg_iload (i := 3) C rfl rfl dL_law_1555 ?_
  refine lg_iconst C dL_law_1556 ?_
  refine lg_iadd (x := ((i + 2 : Nat) : Int)) C (by unfold tv_w; omega) dL_law_1557 ?_
  refine lg_iald C (lw_ix (by omega) (by omega)) dL_law_1558 ?_
  refine lg_callC (y2 := mX11_taken) (as := [tv_I ((xs (((i + 1 : Nat) : Int)).toNat).toInt), tv_I ((xs (((i + 2 : Nat) : Int)).toNat).toInt)]) (st := []) (d := 0) (T := TX11) C rfl tw_X11_taken tx_X11_taken tl_L_194 rfl rfl (Nat.le_of_ble_eq_true rfl) (by decide) dL_law_1559 (tv_c1 (tv_inI _) (tv_c1 (tv_inI _) (fun v hv => by cases hv))) ho.1 (S_X11_taken l C.2.2.2.2.2.2.2.2.2.2.2.2.1 _ ((xs (((i + 1 : Nat) : Int)).toNat).toInt) ((xs (((i + 2 : Nat) : Int)).toNat).toInt) Dc) e1 (fun oc => ?_)
  show lw_F p l e s m below meth c b Ec Em 1562 _ [tv_I r] D1 Dm
  refine lg_aloadS (i := 2) C rfl rfl dL_law_1562 ?_
  refine lg_aloadS (i := 0) C rfl rfl dL_law_1563 ?_
  refine lg_iload (i := 3) C rfl rfl dL_law_1564 ?_
  refine lg_iconst C dL_law_1565 ?_
  refine lg_iadd (x := ((i + 1 : Nat) : Int)) C (by unfold tv_w; omega) dL_law_1566 ?_
  refine lg_iald C (lw_ix (by omega) (by omega)) dL_law_1567 ?_
  refine lg_aloadS (i := 0) C rfl rfl dL_law_1568 ?_
  refine lg_iload (i := 3) C rfl rfl dL_law_1569 ?_
  refine lg_iconst C dL_law_1570 ?_
  refine lg_iadd (x := ((i + 2 : Nat) : Int)) C (by unfold tv_w; omega) dL_law_1571 ?_
  refine lg_iald C (lw_ix (by omega) (by omega)) dL_law_1572 ?_
  refine lg_callM (y2 := mX12_taken) (as := [tv_I ((xs (((i + 1 : Nat) : Int)).toNat).toInt), tv_I ((xs (((i + 2 : Nat) : Int)).toNat).toInt)]) (st := [tv_I r]) C rfl tw_X12_taken tx_X12_taken tl_L_197 rfl rfl (Nat.le_of_ble_eq_true rfl) dL_law_1573 (tv_c1 (tv_inI _) (tv_c1 (tv_inI _) (fun v hv => by cases hv))) rfl ho.2 (S_X12_taken l C.2.2.2.2.2.2.2.2.2.2.2.2.2 _ ((xs (((i + 1 : Nat) : Int)).toNat).toInt) ((xs (((i + 2 : Nat) : Int)).toNat).toInt) Dm) e2 (fun om => ?_)
  show lw_F p l e s m below meth c b Ec Em 1576 _ [tv_I r, tv_I r] D1 D2
  exact lg_same (tgt := 1604) C rfl dL_law_1576 (next D1 D2 ⟨oc, om⟩ hR2)
set_option maxRecDepth 20000 in
theorem lc_44 (C : lw_C p s m meth c b L xs Ec Em) (hL : L ≤ 3072) {R : td_D → td_D → Prop} (hs : ls_44 R) {i : Nat} (hi : i + 6 ≤ L) (ho : lw_ok Dc Dm) (hR : R Dc Dm) (next : ∀ Dc' Dm', lw_ok Dc' Dm' → R Dc' Dm' → lw_F p l e s m below meth c b Ec Em 1604 [tv_S 2, tv_R 1, tv_S 3, tv_I (i : Int)] [] Dc' Dm') : lw_F p l e s m below meth c b Ec Em 1581 [tv_S 2, tv_R 1, tv_S 3, tv_I (i : Int)] [] Dc Dm := by
  obtain ⟨r, D1, D2, e1, e2, hR2⟩ := hs ((xs (((i + 1 : Nat) : Int)).toNat).toInt) Dc Dm (tv_inI _) ho hR
  refine lg_aloadR (r := 0) (i := 1) C rfl rfl dL_law_1581 ?_
  refine lg_aloadS (i := 0) C rfl rfl dL_law_1582 ?_
  refine lg_iload (i := 3) C rfl rfl dL_law_1583 ?_
  refine lg_iconst C dL_law_1584 ?_
  refine lg_iadd (x := ((i + 1 : Nat) : Int)) C (by unfold tv_w; omega) dL_law_1585 ?_
  refine lg_iald C (lw_ix (by omega) (by omega)) dL_law_1586 ?_
  refine lg_callC (y2 := mX11_count) (as := [tv_I ((xs (((i + 1 : Nat) : Int)).toNat).toInt)]) (st := []) (d := 0) (T := TX11) C rfl tw_X11_count tx_X11_count tl_L_198 rfl rfl (Nat.le_of_ble_eq_true rfl) (by decide) dL_law_1587 (tv_c1 (tv_inI _) (fun v hv => by cases hv)) ho.1 (S_X11_count l C.2.2.2.2.2.2.2.2.2.2.2.2.1 _ ((xs (((i + 1 : Nat) : Int)).toNat).toInt) Dc) e1 (fun oc => ?_)
  show lw_F p l e s m below meth c b Ec Em 1590 _ [tv_I r] D1 Dm
  refine lg_aloadS (i := 2) C rfl rfl dL_law_1590 ?_
  refine lg_aloadS (i := 0) C rfl rfl dL_law_1591 ?_
  refine lg_iload (i := 3) C rfl rfl dL_law_1592 ?_
  refine lg_iconst C dL_law_1593 ?_
  refine lg_iadd (x := ((i + 1 : Nat) : Int)) C (by unfold tv_w; omega) dL_law_1594 ?_
  refine lg_iald C (lw_ix (by omega) (by omega)) dL_law_1595 ?_
  refine lg_callM (y2 := mX12_count) (as := [tv_I ((xs (((i + 1 : Nat) : Int)).toNat).toInt)]) (st := [tv_I r]) C rfl tw_X12_count tx_X12_count tl_L_201 rfl rfl (Nat.le_of_ble_eq_true rfl) dL_law_1596 (tv_c1 (tv_inI _) (fun v hv => by cases hv)) rfl ho.2 (S_X12_count l C.2.2.2.2.2.2.2.2.2.2.2.2.2 _ ((xs (((i + 1 : Nat) : Int)).toNat).toInt) Dm) e2 (fun om => ?_)
  show lw_F p l e s m below meth c b Ec Em 1599 _ [tv_I r, tv_I r] D1 D2
  exact lg_same (tgt := 1604) C rfl dL_law_1599 (next D1 D2 ⟨oc, om⟩ hR2)
set_option maxRecDepth 20000 in
set_option maxHeartbeats 4000000 in
theorem lw_loop (C : lw_C p s m meth c b L xs Ec Em) (hL : L ≤ 3072) {R : td_D → td_D → Prop} (hs : lw_steps R) : ∀ (n i : Nat) (Dc Dm : td_D), L + 6 - i < n → i ≤ L + 6 → lw_ok Dc Dm → R Dc Dm → lw_F p l e s m below meth c b Ec Em 18 [tv_S 2, tv_R 1, tv_S 3, tv_I (i : Int)] [] Dc Dm := by
  intro n
  induction n with
  | zero => intro i Dc Dm h; omega
  | succ n ih =>
    intro i Dc Dm hn hi ho hR
    have hin : tv_in (i : Int) := by unfold tv_in; omega
    refine lg_iload (i := 3) C rfl rfl dL_law_18 ?_
    refine lg_aloadS (i := 0) C rfl rfl dL_law_19 ?_
    refine lg_alen C dL_law_20 ?_
    refine lg_bipush C rfl dL_law_21 ?_
    refine lg_isub (x := (L : Int) - 6) C (by unfold tv_w; omega) dL_law_23 ?_
    refine lg_icmp_gt (tgt := 1610) C hin (by unfold tv_in; omega) rfl dL_law_24 (fun hq => ?_) (fun hq => ?_)
    · refine lg_iconst C dL_law_1610 ?_
      exact lg_ret C dL_law_1611
    have hi6 : i + 6 ≤ L := by omega
    have next : ∀ Dc' Dm', lw_ok Dc' Dm' → R Dc' Dm' → lw_F p l e s m below meth c b Ec Em 1604 [tv_S 2, tv_R 1, tv_S 3, tv_I (i : Int)] [] Dc' Dm' := by
      intro Dc' Dm' ho' hR'
      refine lg_iinc (x := ((i + 6 : Nat) : Int)) C (by unfold tv_w; omega) [tv_S 2, tv_R 1, tv_S 3, tv_I ((i + 6 : Nat) : Int)] rfl rfl rfl dL_law_1604 ?_
      exact lg_goto (tgt := 18) C rfl dL_law_1607 (ih (i + 6) Dc' Dm' (by omega) (by omega) ho' hR')
    refine lg_aloadS (i := 0) C rfl rfl dL_law_27 ?_
    refine lg_iload (i := 3) C rfl rfl dL_law_28 ?_
    refine lg_iald C (lw_ix (by omega) (by omega)) dL_law_29 ?_
    refine lg_bipush C rfl dL_law_30 ?_
    refine lg_iand C dL_law_32 ?_
    have hb := lw_and63 (xs ((i : Int)).toNat).toInt
    generalize tv_and (xs ((i : Int)).toNat).toInt 63 = v at hb ⊢
    have hv : tv_in v := by unfold tv_in; omega
    by_cases h0 : v = 0
    · exact lg_tabIn (i := 0) (tgt := 228) C hv (by omega) (by omega) rfl rfl dL_law_33 (lc_0 C hL hs.1 hi6 ho hR next)
    by_cases h1 : v = 1
    · exact lg_tabIn (i := 1) (tgt := 251) C hv (by omega) (by omega) rfl rfl dL_law_33 (lc_1 C hL hs.2.1 hi6 ho hR next)
    by_cases h2 : v = 2
    · exact lg_tabIn (i := 2) (tgt := 274) C hv (by omega) (by omega) rfl rfl dL_law_33 (lc_2 C hL hs.2.2.1 hi6 ho hR next)
    by_cases h3 : v = 3
    · exact lg_tabIn (i := 3) (tgt := 307) C hv (by omega) (by omega) rfl rfl dL_law_33 (lc_3 C hL hs.2.2.2.1 hi6 ho hR next)
    by_cases h4 : v = 4
    · exact lg_tabIn (i := 4) (tgt := 350) C hv (by omega) (by omega) rfl rfl dL_law_33 (lc_4 C hL hs.2.2.2.2.1 hi6 ho hR next)
    by_cases h5 : v = 5
    · exact lg_tabIn (i := 5) (tgt := 393) C hv (by omega) (by omega) rfl rfl dL_law_33 (lc_5 C hL hs.2.2.2.2.2.1 hi6 ho hR next)
    by_cases h6 : v = 6
    · exact lg_tabIn (i := 6) (tgt := 426) C hv (by omega) (by omega) rfl rfl dL_law_33 (lc_6 C hL hs.2.2.2.2.2.2.1 hi6 ho hR next)
    by_cases h7 : v = 7
    · exact lg_tabIn (i := 7) (tgt := 449) C hv (by omega) (by omega) rfl rfl dL_law_33 (lc_7 C hL hs.2.2.2.2.2.2.2.1 hi6 ho hR next)
    by_cases h8 : v = 8
    · exact lg_tabIn (i := 8) (tgt := 462) C hv (by omega) (by omega) rfl rfl dL_law_33 (lc_8 C hL hs.2.2.2.2.2.2.2.2.1 hi6 ho hR next)
    by_cases h9 : v = 9
    · exact lg_tabIn (i := 9) (tgt := 495) C hv (by omega) (by omega) rfl rfl dL_law_33 (lc_9 C hL hs.2.2.2.2.2.2.2.2.2.1 hi6 ho hR next)
    by_cases h10 : v = 10
    · exact lg_tabIn (i := 10) (tgt := 518) C hv (by omega) (by omega) rfl rfl dL_law_33 (lc_10 C hL hs.2.2.2.2.2.2.2.2.2.2.1 hi6 ho hR next)
    by_cases h11 : v = 11
    · exact lg_tabIn (i := 11) (tgt := 551) C hv (by omega) (by omega) rfl rfl dL_law_33 (lc_11 C hL hs.2.2.2.2.2.2.2.2.2.2.2.1 hi6 ho hR next)
    by_cases h12 : v = 12
    · exact lg_tabIn (i := 12) (tgt := 594) C hv (by omega) (by omega) rfl rfl dL_law_33 (lc_12 C hL hs.2.2.2.2.2.2.2.2.2.2.2.2.1 hi6 ho hR next)
    by_cases h13 : v = 13
    · exact lg_tabIn (i := 13) (tgt := 627) C hv (by omega) (by omega) rfl rfl dL_law_33 (lc_13 C hL hs.2.2.2.2.2.2.2.2.2.2.2.2.2.1 hi6 ho hR next)
    by_cases h14 : v = 14
    · exact lg_tabIn (i := 14) (tgt := 650) C hv (by omega) (by omega) rfl rfl dL_law_33 (lc_14 C hL hs.2.2.2.2.2.2.2.2.2.2.2.2.2.2.1 hi6 ho hR next)
    by_cases h15 : v = 15
    · exact lg_tabIn (i := 15) (tgt := 673) C hv (by omega) (by omega) rfl rfl dL_law_33 (lc_15 C hL hs.2.2.2.2.2.2.2.2.2.2.2.2.2.2.2.1 hi6 ho hR next)
    by_cases h16 : v = 16
    · exact lg_tabIn (i := 16) (tgt := 706) C hv (by omega) (by omega) rfl rfl dL_law_33 (lc_16 C hL hs.2.2.2.2.2.2.2.2.2.2.2.2.2.2.2.2.1 hi6 ho hR next)
    by_cases h17 : v = 17
    · exact lg_tabIn (i := 17) (tgt := 749) C hv (by omega) (by omega) rfl rfl dL_law_33 (lc_17 C hL hs.2.2.2.2.2.2.2.2.2.2.2.2.2.2.2.2.2.1 hi6 ho hR next)
    by_cases h18 : v = 18
    · exact lg_tabIn (i := 18) (tgt := 792) C hv (by omega) (by omega) rfl rfl dL_law_33 (lc_18 C hL hs.2.2.2.2.2.2.2.2.2.2.2.2.2.2.2.2.2.2.1 hi6 ho hR next)
    by_cases h19 : v = 19
    · exact lg_tabIn (i := 19) (tgt := 835) C hv (by omega) (by omega) rfl rfl dL_law_33 (lc_19 C hL hs.2.2.2.2.2.2.2.2.2.2.2.2.2.2.2.2.2.2.2.1 hi6 ho hR next)
    by_cases h20 : v = 20
    · exact lg_tabIn (i := 20) (tgt := 868) C hv (by omega) (by omega) rfl rfl dL_law_33 (lc_20 C hL hs.2.2.2.2.2.2.2.2.2.2.2.2.2.2.2.2.2.2.2.2.1 hi6 ho hR next)
    by_cases h21 : v = 21
    · exact lg_tabIn (i := 21) (tgt := 891) C hv (by omega) (by omega) rfl rfl dL_law_33 (lc_21 C hL hs.2.2.2.2.2.2.2.2.2.2.2.2.2.2.2.2.2.2.2.2.2.1 hi6 ho hR next)
    by_cases h22 : v = 22
    · exact lg_tabIn (i := 22) (tgt := 914) C hv (by omega) (by omega) rfl rfl dL_law_33 (lc_22 C hL hs.2.2.2.2.2.2.2.2.2.2.2.2.2.2.2.2.2.2.2.2.2.2.1 hi6 ho hR next)
    by_cases h23 : v = 23
    · exact lg_tabIn (i := 23) (tgt := 947) C hv (by omega) (by omega) rfl rfl dL_law_33 (lc_23 C hL hs.2.2.2.2.2.2.2.2.2.2.2.2.2.2.2.2.2.2.2.2.2.2.2.1 hi6 ho hR next)
    by_cases h24 : v = 24
    · exact lg_tabIn (i := 24) (tgt := 970) C hv (by omega) (by omega) rfl rfl dL_law_33 (lc_24 C hL hs.2.2.2.2.2.2.2.2.2.2.2.2.2.2.2.2.2.2.2.2.2.2.2.2.1 hi6 ho hR next)
    by_cases h25 : v = 25
    · exact lg_tabIn (i := 25) (tgt := 1013) C hv (by omega) (by omega) rfl rfl dL_law_33 (lc_25 C hL hs.2.2.2.2.2.2.2.2.2.2.2.2.2.2.2.2.2.2.2.2.2.2.2.2.2.1 hi6 ho hR next)
    by_cases h26 : v = 26
    · exact lg_tabIn (i := 26) (tgt := 1046) C hv (by omega) (by omega) rfl rfl dL_law_33 (lc_26 C hL hs.2.2.2.2.2.2.2.2.2.2.2.2.2.2.2.2.2.2.2.2.2.2.2.2.2.2.1 hi6 ho hR next)
    by_cases h27 : v = 27
    · exact lg_tabIn (i := 27) (tgt := 1079) C hv (by omega) (by omega) rfl rfl dL_law_33 (lc_27 C hL hs.2.2.2.2.2.2.2.2.2.2.2.2.2.2.2.2.2.2.2.2.2.2.2.2.2.2.2.1 hi6 ho hR next)
    by_cases h28 : v = 28
    · exact lg_tabIn (i := 28) (tgt := 1092) C hv (by omega) (by omega) rfl rfl dL_law_33 (lc_28 C hL hs.2.2.2.2.2.2.2.2.2.2.2.2.2.2.2.2.2.2.2.2.2.2.2.2.2.2.2.2.1 hi6 ho hR next)
    by_cases h29 : v = 29
    · exact lg_tabIn (i := 29) (tgt := 1115) C hv (by omega) (by omega) rfl rfl dL_law_33 (lc_29 C hL hs.2.2.2.2.2.2.2.2.2.2.2.2.2.2.2.2.2.2.2.2.2.2.2.2.2.2.2.2.2.1 hi6 ho hR next)
    by_cases h30 : v = 30
    · exact lg_tabIn (i := 30) (tgt := 1138) C hv (by omega) (by omega) rfl rfl dL_law_33 (lc_30 C hL hs.2.2.2.2.2.2.2.2.2.2.2.2.2.2.2.2.2.2.2.2.2.2.2.2.2.2.2.2.2.2.1 hi6 ho hR next)
    by_cases h31 : v = 31
    · exact lg_tabIn (i := 31) (tgt := 1161) C hv (by omega) (by omega) rfl rfl dL_law_33 (lc_31 C hL hs.2.2.2.2.2.2.2.2.2.2.2.2.2.2.2.2.2.2.2.2.2.2.2.2.2.2.2.2.2.2.2.1 hi6 ho hR next)
    by_cases h32 : v = 32
    · exact lg_tabIn (i := 32) (tgt := 1174) C hv (by omega) (by omega) rfl rfl dL_law_33 (lc_32 C hL hs.2.2.2.2.2.2.2.2.2.2.2.2.2.2.2.2.2.2.2.2.2.2.2.2.2.2.2.2.2.2.2.2.1 hi6 ho hR next)
    by_cases h33 : v = 33
    · exact lg_tabIn (i := 33) (tgt := 1187) C hv (by omega) (by omega) rfl rfl dL_law_33 (lc_33 C hL hs.2.2.2.2.2.2.2.2.2.2.2.2.2.2.2.2.2.2.2.2.2.2.2.2.2.2.2.2.2.2.2.2.2.1 hi6 ho hR next)
    by_cases h34 : v = 34
    · exact lg_tabIn (i := 34) (tgt := 1200) C hv (by omega) (by omega) rfl rfl dL_law_33 (lc_34 C hL hs.2.2.2.2.2.2.2.2.2.2.2.2.2.2.2.2.2.2.2.2.2.2.2.2.2.2.2.2.2.2.2.2.2.2.1 hi6 ho hR next)
    by_cases h35 : v = 35
    · exact lg_tabIn (i := 35) (tgt := 1213) C hv (by omega) (by omega) rfl rfl dL_law_33 (lc_35 C hL hs.2.2.2.2.2.2.2.2.2.2.2.2.2.2.2.2.2.2.2.2.2.2.2.2.2.2.2.2.2.2.2.2.2.2.2.1 hi6 ho hR next)
    by_cases h36 : v = 36
    · exact lg_tabIn (i := 36) (tgt := 1236) C hv (by omega) (by omega) rfl rfl dL_law_33 (lc_36 C hL hs.2.2.2.2.2.2.2.2.2.2.2.2.2.2.2.2.2.2.2.2.2.2.2.2.2.2.2.2.2.2.2.2.2.2.2.2.1 hi6 ho hR next)
    by_cases h37 : v = 37
    · exact lg_tabIn (i := 37) (tgt := 1279) C hv (by omega) (by omega) rfl rfl dL_law_33 (lc_37 C hL hs.2.2.2.2.2.2.2.2.2.2.2.2.2.2.2.2.2.2.2.2.2.2.2.2.2.2.2.2.2.2.2.2.2.2.2.2.2.1 hi6 ho hR next)
    by_cases h38 : v = 38
    · exact lg_tabIn (i := 38) (tgt := 1302) C hv (by omega) (by omega) rfl rfl dL_law_33 (lc_38 C hL hs.2.2.2.2.2.2.2.2.2.2.2.2.2.2.2.2.2.2.2.2.2.2.2.2.2.2.2.2.2.2.2.2.2.2.2.2.2.2.1 hi6 ho hR next)
    by_cases h39 : v = 39
    · exact lg_tabIn (i := 39) (tgt := 1335) C hv (by omega) (by omega) rfl rfl dL_law_33 (lc_39 C hL hs.2.2.2.2.2.2.2.2.2.2.2.2.2.2.2.2.2.2.2.2.2.2.2.2.2.2.2.2.2.2.2.2.2.2.2.2.2.2.2.1 hi6 ho hR next)
    by_cases h40 : v = 40
    · exact lg_tabIn (i := 40) (tgt := 1378) C hv (by omega) (by omega) rfl rfl dL_law_33 (lc_40 C hL hs.2.2.2.2.2.2.2.2.2.2.2.2.2.2.2.2.2.2.2.2.2.2.2.2.2.2.2.2.2.2.2.2.2.2.2.2.2.2.2.2.1 hi6 ho hR next)
    by_cases h41 : v = 41
    · exact lg_tabIn (i := 41) (tgt := 1451) C hv (by omega) (by omega) rfl rfl dL_law_33 (lc_41 C hL hs.2.2.2.2.2.2.2.2.2.2.2.2.2.2.2.2.2.2.2.2.2.2.2.2.2.2.2.2.2.2.2.2.2.2.2.2.2.2.2.2.2.1 hi6 ho hR next)
    by_cases h42 : v = 42
    · exact lg_tabIn (i := 42) (tgt := 1485) C hv (by omega) (by omega) rfl rfl dL_law_33 (lc_42 C hL hs.2.2.2.2.2.2.2.2.2.2.2.2.2.2.2.2.2.2.2.2.2.2.2.2.2.2.2.2.2.2.2.2.2.2.2.2.2.2.2.2.2.2.1 hi6 ho hR next)
    by_cases h43 : v = 43
    · exact lg_tabIn (i := 43) (tgt := 1548) C hv (by omega) (by omega) rfl rfl dL_law_33 (lc_43 C hL hs.2.2.2.2.2.2.2.2.2.2.2.2.2.2.2.2.2.2.2.2.2.2.2.2.2.2.2.2.2.2.2.2.2.2.2.2.2.2.2.2.2.2.2.1 hi6 ho hR next)
    by_cases h44 : v = 44
    · exact lg_tabIn (i := 44) (tgt := 1581) C hv (by omega) (by omega) rfl rfl dL_law_33 (lc_44 C hL hs.2.2.2.2.2.2.2.2.2.2.2.2.2.2.2.2.2.2.2.2.2.2.2.2.2.2.2.2.2.2.2.2.2.2.2.2.2.2.2.2.2.2.2.2 hi6 ho hR next)
    exact lg_tabOut (tgt := 1604) C hv (by omega) rfl dL_law_33 (next Dc Dm ho hR)
end LC
