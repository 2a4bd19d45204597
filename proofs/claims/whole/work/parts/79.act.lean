theorem rL_c {b : Int} {l : List Int} {D : td_D} : rL_o (b :: l) D = rL_o l (rn_o b D) := rfl
theorem cx_0_0 {a x : Int} {D : td_D} (h : bc_o a 0 0 D) : F_sw 100 0 0 x 0 0 D = some (tv_w (x + a), rL_o [1] D) := by
  have e := fe_ow (m := 97) (act := 0) (x := x) (d := 0) h (by omega) (by omega) (by decide) rn_0_0
  have e2 := an_0_1 (m := 97) (x := x) (d := 0 + 1) (bc_s (b := 1) (by omega) h) (by omega) (by omega) (by omega)
  rw [rL_c]
  exact e.trans e2
theorem cx_0_1 {a x : Int} {D : td_D} (h : bc_o a 0 0 D) : F_sw 100 0 1 x 0 0 D = some (tv_w ((tv_w (x + a)) * 2), rL_o [10, 1] D) := by
  have e := fe_ow (m := 97) (act := 1) (x := x) (d := 0) h (by omega) (by omega) (by decide) rn_0_1
  have e2 := an_0_10 (m := 94) (x := x) (d := 0 + 1) (bc_s (b := 10) (by omega) h) (by omega) (by omega) (by omega)
  rw [rL_c]
  exact e.trans e2
theorem cx_0_2 {a x : Int} {D : td_D} (h : bc_o a 0 0 D) : F_sw 100 0 2 x 0 0 D = some (tv_xor x a, rL_o [11] D) := by
  have e := fe_ow (m := 97) (act := 2) (x := x) (d := 0) h (by omega) (by omega) (by decide) rn_0_2
  have e2 := an_0_11 (m := 97) (x := x) (d := 0 + 1) (bc_s (b := 11) (by omega) h) (by omega) (by omega) (by omega)
  rw [rL_c]
  exact e.trans e2
theorem cx_0_3 {a x : Int} {D : td_D} (h : bc_o a 0 0 D) : F_sw 100 0 3 x 0 0 D = some (tv_w ((tv_w ((tv_w (x + a)) * 2)) - (tv_xor 1 a)), rL_o [2, 10, 1, 11] D) := by
  have e := fe_ow (m := 97) (act := 3) (x := x) (d := 0) h (by omega) (by omega) (by decide) rn_0_3
  have e2 := an_0_2 (m := 91) (x := x) (d := 0 + 1) (bc_s (b := 2) (by omega) h) (by omega) (by omega) (by omega)
  rw [rL_c]
  exact e.trans e2
theorem cx_1_0 {a x : Int} {D : td_D} (h : bc_o a 1 0 D) : F_sw 100 0 0 x 0 0 D = some (tv_w ((tv_w (x + a)) + 3), rL_o [20, 1] D) := by
  have e := fe_ow (m := 97) (act := 0) (x := x) (d := 0) h (by omega) (by omega) (by decide) rn_1_0
  have e2 := an_1_20 (m := 94) (x := x) (d := 0 + 1) (bc_s (b := 20) (by omega) h) (by omega) (by omega) (by omega)
  rw [rL_c]
  exact e.trans e2
theorem cx_1_1 {a x : Int} {D : td_D} (h : bc_o a 1 0 D) : F_sw 100 0 1 x 0 0 D = some (tv_w ((tv_w ((tv_w (x + a)) + 3)) * 2), rL_o [10, 20, 1] D) := by
  have e := fe_ow (m := 97) (act := 1) (x := x) (d := 0) h (by omega) (by omega) (by decide) rn_1_1
  have e2 := an_1_10 (m := 91) (x := x) (d := 0 + 1) (bc_s (b := 10) (by omega) h) (by omega) (by omega) (by omega)
  rw [rL_c]
  exact e.trans e2
theorem cx_1_2 {a x : Int} {D : td_D} (h : bc_o a 1 0 D) : F_sw 100 0 2 x 0 0 D = some (tv_xor x a, rL_o [11] D) := by
  have e := fe_ow (m := 97) (act := 2) (x := x) (d := 0) h (by omega) (by omega) (by decide) rn_1_2
  have e2 := an_1_11 (m := 97) (x := x) (d := 0 + 1) (bc_s (b := 11) (by omega) h) (by omega) (by omega) (by omega)
  rw [rL_c]
  exact e.trans e2
theorem cx_1_3 {a x : Int} {D : td_D} (h : bc_o a 1 0 D) : F_sw 100 0 3 x 0 0 D = some (tv_w ((tv_w ((tv_w ((tv_w (x + a)) + 3)) * 2)) - (tv_xor 1 a)), rL_o [2, 10, 20, 1, 11] D) := by
  have e := fe_ow (m := 97) (act := 3) (x := x) (d := 0) h (by omega) (by omega) (by decide) rn_1_3
  have e2 := an_1_2 (m := 88) (x := x) (d := 0 + 1) (bc_s (b := 2) (by omega) h) (by omega) (by omega) (by omega)
  rw [rL_c]
  exact e.trans e2
theorem cx_2_0 {a x : Int} {D : td_D} (h : bc_o a 2 0 D) : F_sw 100 0 0 x 0 0 D = some (tv_w (x + a), rL_o [1] D) := by
  have e := fe_ow (m := 97) (act := 0) (x := x) (d := 0) h (by omega) (by omega) (by decide) rn_2_0
  have e2 := an_2_1 (m := 97) (x := x) (d := 0 + 1) (bc_s (b := 1) (by omega) h) (by omega) (by omega) (by omega)
  rw [rL_c]
  exact e.trans e2
theorem cx_2_1 {a x : Int} {D : td_D} (h : bc_o a 2 0 D) : F_sw 100 0 1 x 0 0 D = some (tv_w (-(tv_w ((tv_w (x + a)) * 2))), rL_o [30, 10, 1] D) := by
  have e := fe_ow (m := 97) (act := 1) (x := x) (d := 0) h (by omega) (by omega) (by decide) rn_2_1
  have e2 := an_2_30 (m := 91) (x := x) (d := 0 + 1) (bc_s (b := 30) (by omega) h) (by omega) (by omega) (by omega)
  rw [rL_c]
  exact e.trans e2
theorem cx_2_2 {a x : Int} {D : td_D} (h : bc_o a 2 0 D) : F_sw 100 0 2 x 0 0 D = some (tv_xor x a, rL_o [11] D) := by
  have e := fe_ow (m := 97) (act := 2) (x := x) (d := 0) h (by omega) (by omega) (by decide) rn_2_2
  have e2 := an_2_11 (m := 97) (x := x) (d := 0 + 1) (bc_s (b := 11) (by omega) h) (by omega) (by omega) (by omega)
  rw [rL_c]
  exact e.trans e2
theorem cx_2_3 {a x : Int} {D : td_D} (h : bc_o a 2 0 D) : F_sw 100 0 3 x 0 0 D = some (tv_w ((tv_w (-(tv_w ((tv_w (x + a)) * 2)))) - (tv_xor 1 a)), rL_o [2, 30, 10, 1, 11] D) := by
  have e := fe_ow (m := 97) (act := 3) (x := x) (d := 0) h (by omega) (by omega) (by decide) rn_2_3
  have e2 := an_2_2 (m := 88) (x := x) (d := 0 + 1) (bc_s (b := 2) (by omega) h) (by omega) (by omega) (by omega)
  rw [rL_c]
  exact e.trans e2
theorem cx_3_0 {a x : Int} {D : td_D} (h : bc_o a 3 0 D) : F_sw 100 0 0 x 0 0 D = some (tv_w (x + a), rL_o [1] D) := by
  have e := fe_ow (m := 97) (act := 0) (x := x) (d := 0) h (by omega) (by omega) (by decide) rn_3_0
  have e2 := an_3_1 (m := 97) (x := x) (d := 0 + 1) (bc_s (b := 1) (by omega) h) (by omega) (by omega) (by omega)
  rw [rL_c]
  exact e.trans e2
theorem cx_3_1 {a x : Int} {D : td_D} (h : bc_o a 3 0 D) : F_sw 100 0 1 x 0 0 D = some (tv_w (-(tv_w ((tv_w ((tv_w (x + 1)) + a)) * 2))), rL_o [41, 30, 10, 1] D) := by
  have e := fe_ow (m := 97) (act := 1) (x := x) (d := 0) h (by omega) (by omega) (by decide) rn_3_1
  have e2 := an_3_41 (m := 88) (x := x) (d := 0 + 1) (bc_s (b := 41) (by omega) h) (by omega) (by omega) (by omega)
  rw [rL_c]
  exact e.trans e2
theorem cx_3_2 {a x : Int} {D : td_D} (h : bc_o a 3 0 D) : F_sw 100 0 2 x 0 0 D = some (tv_w ((tv_xor x a) * 3), rL_o [40, 11] D) := by
  have e := fe_ow (m := 97) (act := 2) (x := x) (d := 0) h (by omega) (by omega) (by decide) rn_3_2
  have e2 := an_3_40 (m := 94) (x := x) (d := 0 + 1) (bc_s (b := 40) (by omega) h) (by omega) (by omega) (by omega)
  rw [rL_c]
  exact e.trans e2
theorem cx_3_3 {a x : Int} {D : td_D} (h : bc_o a 3 0 D) : F_sw 100 0 3 x 0 0 D = some (tv_w ((tv_w (-(tv_w ((tv_w ((tv_w (x + 1)) + a)) * 2)))) - (tv_w ((tv_xor 1 a) * 3))), rL_o [2, 41, 30, 10, 1, 40, 11] D) := by
  have e := fe_ow (m := 97) (act := 3) (x := x) (d := 0) h (by omega) (by omega) (by decide) rn_3_3
  have e2 := an_3_2 (m := 85) (x := x) (d := 0 + 1) (bc_s (b := 2) (by omega) h) (by omega) (by omega) (by omega)
  rw [rL_c]
  exact e.trans e2
theorem cx_4_0 {a x : Int} {D : td_D} (h : bc_o a 4 0 D) : F_sw 100 0 0 x 0 0 D = some (tv_w ((tv_w (x + a)) + 3), rL_o [20, 1] D) := by
  have e := fe_ow (m := 97) (act := 0) (x := x) (d := 0) h (by omega) (by omega) (by decide) rn_4_0
  have e2 := an_4_20 (m := 94) (x := x) (d := 0 + 1) (bc_s (b := 20) (by omega) h) (by omega) (by omega) (by omega)
  rw [rL_c]
  exact e.trans e2
theorem cx_4_1 {a x : Int} {D : td_D} (h : bc_o a 4 0 D) : F_sw 100 0 1 x 0 0 D = some (tv_w ((tv_w ((tv_w (x + a)) + 3)) * 2), rL_o [10, 20, 1] D) := by
  have e := fe_ow (m := 97) (act := 1) (x := x) (d := 0) h (by omega) (by omega) (by decide) rn_4_1
  have e2 := an_4_10 (m := 91) (x := x) (d := 0 + 1) (bc_s (b := 10) (by omega) h) (by omega) (by omega) (by omega)
  rw [rL_c]
  exact e.trans e2
theorem cx_4_2 {a x : Int} {D : td_D} (h : bc_o a 4 0 D) : F_sw 100 0 2 x 0 0 D = some (tv_xor x a, rL_o [11] D) := by
  have e := fe_ow (m := 97) (act := 2) (x := x) (d := 0) h (by omega) (by omega) (by decide) rn_4_2
  have e2 := an_4_11 (m := 97) (x := x) (d := 0 + 1) (bc_s (b := 11) (by omega) h) (by omega) (by omega) (by omega)
  rw [rL_c]
  exact e.trans e2
theorem cx_4_3 {a x : Int} {D : td_D} (h : bc_o a 4 0 D) : F_sw 100 0 3 x 0 0 D = some (tv_xor (tv_w ((tv_w ((tv_w ((tv_w (x + a)) + 3)) * 2)) - (tv_xor 1 a))) 5, rL_o [50, 2, 10, 20, 1, 11] D) := by
  have e := fe_ow (m := 97) (act := 3) (x := x) (d := 0) h (by omega) (by omega) (by decide) rn_4_3
  have e2 := an_4_50 (m := 85) (x := x) (d := 0 + 1) (bc_s (b := 50) (by omega) h) (by omega) (by omega) (by omega)
  rw [rL_c]
  exact e.trans e2
theorem cx_5_0 {a x : Int} {D : td_D} (h : bc_o a 5 0 D) : F_sw 100 0 0 x 0 0 D = some (tv_w (x + a), rL_o [1] D) := by
  have e := fe_ow (m := 97) (act := 0) (x := x) (d := 0) h (by omega) (by omega) (by decide) rn_5_0
  have e2 := an_5_1 (m := 97) (x := x) (d := 0 + 1) (bc_s (b := 1) (by omega) h) (by omega) (by omega) (by omega)
  rw [rL_c]
  exact e.trans e2
theorem cx_5_1 {a x : Int} {D : td_D} (h : bc_o a 5 0 D) : F_sw 100 0 1 x 0 0 D = some (tv_w (-(tv_w ((tv_w ((tv_w (x + 1)) + a)) * 2))), rL_o [41, 30, 10, 1] D) := by
  have e := fe_ow (m := 97) (act := 1) (x := x) (d := 0) h (by omega) (by omega) (by decide) rn_5_1
  have e2 := an_5_41 (m := 88) (x := x) (d := 0 + 1) (bc_s (b := 41) (by omega) h) (by omega) (by omega) (by omega)
  rw [rL_c]
  exact e.trans e2
theorem cx_5_2 {a x : Int} {D : td_D} (h : bc_o a 5 0 D) : F_sw 100 0 2 x 0 0 D = some (tv_w ((tv_w ((tv_xor x a) * 3)) - (tv_w (2 + a))), rL_o [60, 40, 11, 1] D) := by
  have e := fe_ow (m := 97) (act := 2) (x := x) (d := 0) h (by omega) (by omega) (by decide) rn_5_2
  have e2 := an_5_60 (m := 91) (x := x) (d := 0 + 1) (bc_s (b := 60) (by omega) h) (by omega) (by omega) (by omega)
  rw [rL_c]
  exact e.trans e2
theorem cx_5_3 {a x : Int} {D : td_D} (h : bc_o a 5 0 D) : F_sw 100 0 3 x 0 0 D = some (tv_w ((tv_w ((tv_w (-(tv_w ((tv_w ((tv_w (x + 1)) + a)) * 2)))) - (tv_w ((tv_w ((tv_xor 1 a) * 3)) - (tv_w (2 + a)))))) + 1), rL_o [61, 2, 41, 30, 10, 1, 60, 40, 11, 1] D) := by
  have e := fe_ow (m := 97) (act := 3) (x := x) (d := 0) h (by omega) (by omega) (by decide) rn_5_3
  have e2 := an_5_61 (m := 82) (x := x) (d := 0 + 1) (bc_s (b := 61) (by omega) h) (by omega) (by omega) (by omega)
  rw [rL_c]
  exact e.trans e2
theorem cx_6_0 {a x : Int} {D : td_D} (h : bc_o a 6 0 D) : F_sw 100 0 0 x 0 0 D = some (tv_w ((tv_w (x + a)) * 2), rL_o [70, 1] D) := by
  have e := fe_ow (m := 97) (act := 0) (x := x) (d := 0) h (by omega) (by omega) (by decide) rn_6_0
  have e2 := an_6_70 (m := 94) (x := x) (d := 0 + 1) (bc_s (b := 70) (by omega) h) (by omega) (by omega) (by omega)
  rw [rL_c]
  exact e.trans e2
theorem cx_6_1 {a x : Int} {D : td_D} (h : bc_o a 6 0 D) : F_sw 100 0 1 x 0 0 D = some (tv_w ((tv_w ((tv_w (x + a)) * 2)) * 2), rL_o [10, 70, 1] D) := by
  have e := fe_ow (m := 97) (act := 1) (x := x) (d := 0) h (by omega) (by omega) (by decide) rn_6_1
  have e2 := an_6_10 (m := 91) (x := x) (d := 0 + 1) (bc_s (b := 10) (by omega) h) (by omega) (by omega) (by omega)
  rw [rL_c]
  exact e.trans e2
theorem cx_6_2 {a x : Int} {D : td_D} (h : bc_o a 6 0 D) : F_sw 100 0 2 x 0 0 D = some (tv_xor x a, rL_o [11] D) := by
  have e := fe_ow (m := 97) (act := 2) (x := x) (d := 0) h (by omega) (by omega) (by decide) rn_6_2
  have e2 := an_6_11 (m := 97) (x := x) (d := 0 + 1) (bc_s (b := 11) (by omega) h) (by omega) (by omega) (by omega)
  rw [rL_c]
  exact e.trans e2
theorem cx_6_3 {a x : Int} {D : td_D} (h : bc_o a 6 0 D) : F_sw 100 0 3 x 0 0 D = some (tv_w ((tv_w ((tv_w ((tv_w (x + a)) * 2)) * 2)) - (tv_xor 1 a)), rL_o [2, 10, 70, 1, 11] D) := by
  have e := fe_ow (m := 97) (act := 3) (x := x) (d := 0) h (by omega) (by omega) (by decide) rn_6_3
  have e2 := an_6_2 (m := 88) (x := x) (d := 0 + 1) (bc_s (b := 2) (by omega) h) (by omega) (by omega) (by omega)
  rw [rL_c]
  exact e.trans e2
theorem cx_7_0 {a x : Int} {D : td_D} (h : bc_o a 7 0 D) : F_sw 100 0 0 x 0 0 D = some (tv_w ((tv_w ((tv_w (x + a)) * 2)) - 1), rL_o [81, 70, 1] D) := by
  have e := fe_ow (m := 97) (act := 0) (x := x) (d := 0) h (by omega) (by omega) (by decide) rn_7_0
  have e2 := an_7_81 (m := 91) (x := x) (d := 0 + 1) (bc_s (b := 81) (by omega) h) (by omega) (by omega) (by omega)
  rw [rL_c]
  exact e.trans e2
theorem cx_7_1 {a x : Int} {D : td_D} (h : bc_o a 7 0 D) : F_sw 100 0 1 x 0 0 D = some (tv_w ((tv_w ((tv_w ((tv_w ((tv_w (x + a)) * 2)) - 1)) * 2)) + (tv_xor 2 a)), rL_o [80, 10, 81, 70, 1, 11] D) := by
  have e := fe_ow (m := 97) (act := 1) (x := x) (d := 0) h (by omega) (by omega) (by decide) rn_7_1
  have e2 := an_7_80 (m := 85) (x := x) (d := 0 + 1) (bc_s (b := 80) (by omega) h) (by omega) (by omega) (by omega)
  rw [rL_c]
  exact e.trans e2
theorem cx_7_2 {a x : Int} {D : td_D} (h : bc_o a 7 0 D) : F_sw 100 0 2 x 0 0 D = some (tv_xor x a, rL_o [11] D) := by
  have e := fe_ow (m := 97) (act := 2) (x := x) (d := 0) h (by omega) (by omega) (by decide) rn_7_2
  have e2 := an_7_11 (m := 97) (x := x) (d := 0 + 1) (bc_s (b := 11) (by omega) h) (by omega) (by omega) (by omega)
  rw [rL_c]
  exact e.trans e2
theorem cx_7_3 {a x : Int} {D : td_D} (h : bc_o a 7 0 D) : F_sw 100 0 3 x 0 0 D = some (tv_w ((tv_w ((tv_w ((tv_w ((tv_w ((tv_w (x + a)) * 2)) - 1)) * 2)) + (tv_xor 2 a))) - (tv_xor 1 a)), rL_o [2, 80, 10, 81, 70, 1, 11, 11] D) := by
  have e := fe_ow (m := 97) (act := 3) (x := x) (d := 0) h (by omega) (by omega) (by decide) rn_7_3
  have e2 := an_7_2 (m := 82) (x := x) (d := 0 + 1) (bc_s (b := 2) (by omega) h) (by omega) (by omega) (by omega)
  rw [rL_c]
  exact e.trans e2
/-- act -/
theorem lk_act {a b x : Int} {Dc Dm : td_D} (hR : lw_R Dc Dm) (a1 : 0 ≤ a) (a2 : a < Dc 43 1) (b1 : 0 ≤ b) (b2 : b ≤ 3) : lw_eq lw_R (F_X8_begin a b x (td_upd Dc 43 3 0)) (if b = 0 then (td_b (F_X12_keeping a x (td_upd Dm 1 52 0)) fun r6 D7 => some (r6, D7)) else if b = 1 then (td_b (F_X12_stinging a x (td_upd Dm 1 52 0)) fun r8 D9 => some (r8, D9)) else if b = 2 then (td_b (F_X12_growing a x (td_upd Dm 1 52 0)) fun r10 D11 => some (r10, D11)) else (td_b (F_X12_telling a x (td_upd Dm 1 52 0)) fun r12 D13 => some (r12, D13))) := by
  obtain ⟨hl, hs, ht, hw, hc, hg, hi, ⟨⟨c1, c1a, c1b⟩, c2, c3, c4⟩, hh⟩ := id hR
  have kd := c2 a.toNat (by omega)
  have R0 : lw_R (td_upd (td_upd Dc 43 3 0) 43 4 a) (td_upd Dm 1 52 0) := by
    unfold lw_R
    simp (disch := decide) only [tu_row, tu_at, tu_same, tu_ne]
    exact ⟨hl, hs, ht, hw, hc, hg, hi, ⟨⟨c1, c1a, c1b⟩, c2, by omega, fun i i1 i2 => by omega⟩, hh⟩
  have B0 : bc_o a (Dc 44 a.toNat) 0 (td_upd (td_upd Dc 43 3 0) 43 4 a) := by
    unfold bc_o
    simp (disch := decide) only [tu_row, tu_at, tu_same, tu_ne]
    exact ⟨by omega, by omega, trivial, trivial, a1, by omega⟩
  have M0 : bm_o a (Dc 44 a.toNat) 0 (td_upd Dm 1 52 0) := by
    unfold bm_o
    simp (disch := decide) only [tu_row, tu_at, tu_same, tu_ne]
    exact ⟨by omega, by omega, kd.1, a1, by omega⟩
  have go : ∀ (v : Int) (y z : Option (Int × td_D)) (l : List Int), y = some (v, rL_o l (td_upd (td_upd Dc 43 3 0) 43 4 a)) → z = some (v, mL_o l (td_upd Dm 1 52 0)) → 0 + (l.length : Int) ≤ 5000 → lw_eq lw_R y z := by
    intro v y z l hy hz hl2
    rw [hy, hz]
    exact lw_rt rfl (lw_rL l 0 _ _ hl2 B0 R0)
  simp only [tb_i]
  unfold F_X8_begin F_X8_own
  rw [td_ls, tb_i]
  obtain ⟨k, hk⟩ : ∃ k : Int, k = Dc 44 a.toNat := ⟨_, rfl⟩
  rw [← hk] at B0 M0
  have k8 : k = 0 ∨ k = 1 ∨ k = 2 ∨ k = 3 ∨ k = 4 ∨ k = 5 ∨ k = 6 ∨ k = 7 := by omega
  have b4 : b = 0 ∨ b = 1 ∨ b = 2 ∨ b = 3 := by omega
  clear hk R0 kd
  rcases b4 with rfl | rfl | rfl | rfl
  · rw [if_pos (show (0 : Int) = 0 from rfl)]
    rcases k8 with rfl | rfl | rfl | rfl | rfl | rfl | rfl | rfl
    · exact go _ _ _ [1] (cx_0_0 B0) (mk_keeping_0 M0 (by omega)) (by decide)
    · exact go _ _ _ [20, 1] (cx_1_0 B0) (mk_keeping_1 M0 (by omega)) (by decide)
    · exact go _ _ _ [1] (cx_2_0 B0) (mk_keeping_2 M0 (by omega)) (by decide)
    · exact go _ _ _ [1] (cx_3_0 B0) (mk_keeping_3 M0 (by omega)) (by decide)
    · exact go _ _ _ [20, 1] (cx_4_0 B0) (mk_keeping_4 M0 (by omega)) (by decide)
    · exact go _ _ _ [1] (cx_5_0 B0) (mk_keeping_5 M0 (by omega)) (by decide)
    · exact go _ _ _ [70, 1] (cx_6_0 B0) (mk_keeping_6 M0 (by omega)) (by decide)
    · exact go _ _ _ [81, 70, 1] (cx_7_0 B0) (mk_keeping_7 M0 (by omega)) (by decide)
  · rw [if_neg (show ¬ (1 : Int) = 0 by decide), if_pos (show (1 : Int) = 1 from rfl)]
    rcases k8 with rfl | rfl | rfl | rfl | rfl | rfl | rfl | rfl
    · exact go _ _ _ [10, 1] (cx_0_1 B0) (mk_stinging_0 M0 (by omega)) (by decide)
    · exact go _ _ _ [10, 20, 1] (cx_1_1 B0) (mk_stinging_1 M0 (by omega)) (by decide)
    · exact go _ _ _ [30, 10, 1] (cx_2_1 B0) (mk_stinging_2 M0 (by omega)) (by decide)
    · exact go _ _ _ [41, 30, 10, 1] (cx_3_1 B0) (mk_stinging_3 M0 (by omega)) (by decide)
    · exact go _ _ _ [10, 20, 1] (cx_4_1 B0) (mk_stinging_4 M0 (by omega)) (by decide)
    · exact go _ _ _ [41, 30, 10, 1] (cx_5_1 B0) (mk_stinging_5 M0 (by omega)) (by decide)
    · exact go _ _ _ [10, 70, 1] (cx_6_1 B0) (mk_stinging_6 M0 (by omega)) (by decide)
    · exact go _ _ _ [80, 10, 81, 70, 1, 11] (cx_7_1 B0) (mk_stinging_7 M0 (by omega)) (by decide)
  · rw [if_neg (show ¬ (2 : Int) = 0 by decide), if_neg (show ¬ (2 : Int) = 1 by decide), if_pos (show (2 : Int) = 2 from rfl)]
    rcases k8 with rfl | rfl | rfl | rfl | rfl | rfl | rfl | rfl
    · exact go _ _ _ [11] (cx_0_2 B0) (mk_growing_0 M0 (by omega)) (by decide)
    · exact go _ _ _ [11] (cx_1_2 B0) (mk_growing_1 M0 (by omega)) (by decide)
    · exact go _ _ _ [11] (cx_2_2 B0) (mk_growing_2 M0 (by omega)) (by decide)
    · exact go _ _ _ [40, 11] (cx_3_2 B0) (mk_growing_3 M0 (by omega)) (by decide)
    · exact go _ _ _ [11] (cx_4_2 B0) (mk_growing_4 M0 (by omega)) (by decide)
    · exact go _ _ _ [60, 40, 11, 1] (cx_5_2 B0) (mk_growing_5 M0 (by omega)) (by decide)
    · exact go _ _ _ [11] (cx_6_2 B0) (mk_growing_6 M0 (by omega)) (by decide)
    · exact go _ _ _ [11] (cx_7_2 B0) (mk_growing_7 M0 (by omega)) (by decide)
  · rw [if_neg (show ¬ (3 : Int) = 0 by decide), if_neg (show ¬ (3 : Int) = 1 by decide), if_neg (show ¬ (3 : Int) = 2 by decide)]
    rcases k8 with rfl | rfl | rfl | rfl | rfl | rfl | rfl | rfl
    · exact go _ _ _ [2, 10, 1, 11] (cx_0_3 B0) (mk_telling_0 M0 (by omega)) (by decide)
    · exact go _ _ _ [2, 10, 20, 1, 11] (cx_1_3 B0) (mk_telling_1 M0 (by omega)) (by decide)
    · exact go _ _ _ [2, 30, 10, 1, 11] (cx_2_3 B0) (mk_telling_2 M0 (by omega)) (by decide)
    · exact go _ _ _ [2, 41, 30, 10, 1, 40, 11] (cx_3_3 B0) (mk_telling_3 M0 (by omega)) (by decide)
    · exact go _ _ _ [50, 2, 10, 20, 1, 11] (cx_4_3 B0) (mk_telling_4 M0 (by omega)) (by decide)
    · exact go _ _ _ [61, 2, 41, 30, 10, 1, 60, 40, 11, 1] (cx_5_3 B0) (mk_telling_5 M0 (by omega)) (by decide)
    · exact go _ _ _ [2, 10, 70, 1, 11] (cx_6_3 B0) (mk_telling_6 M0 (by omega)) (by decide)
    · exact go _ _ _ [2, 80, 10, 81, 70, 1, 11, 11] (cx_7_3 B0) (mk_telling_7 M0 (by omega)) (by decide)
theorem st_36 : ls_36 lw_R := by
  intro a1 a2 a3 Dc Dm _ _ _ _ hR
  obtain ⟨hl, hs, ht, hw, hc, hg, hi, ⟨⟨c1, c1a, c1b⟩, c2, c3, c4⟩, hh⟩ := id hR
  have R0 : lw_R (td_upd Dc 43 3 0) (td_upd Dm 1 52 0) := by
    unfold lw_R
    simp (disch := decide) only [tu_row, tu_at, tu_same, tu_ne]
    exact ⟨hl, hs, ht, hw, hc, hg, hi, ⟨⟨c1, c1a, c1b⟩, c2, by omega, fun i i1 i2 => by omega⟩, hh⟩
  have e1 : td_upd Dc 43 3 0 43 1 = Dc 43 1 := by rw [tu_at, tu_ne (by decide)]
  have e2 : td_upd Dm 1 52 0 1 50 = Dc 43 1 := by rw [tu_at, tu_ne (by decide)]; exact c1
  unfold F_X11_act F_X12_act
  simp only [tb_l]
  rw [fe_isBody, td_bs, e1, fm_isBody _ (by omega), td_bs, e2]
  simp only [tf_0]
  by_cases c : 0 ≤ a1 ∧ a1 < Dc 43 1
  · simp only [if_neg (show ¬ ¬ (0 ≤ a1 ∧ a1 < Dc 43 1) from fun q => q c), fm_in, tb_s, tf_0]
    by_cases d : 0 ≤ a2 ∧ a2 ≤ 3
    · rw [if_neg (show ¬ a2 < 0 by omega), if_pos (show a2 < 4 by omega), if_neg (show ¬ ¬ (0 ≤ a2 ∧ a2 ≤ 3) from fun q => q d), tb_i]
      exact lk_act hR c.1 c.2 d.1 d.2
    · rw [if_pos d]
      by_cases d2 : a2 < 0
      · rw [if_pos d2]
        exact lw_rt rfl R0
      · rw [if_neg d2, if_neg (by omega)]
        exact lw_rt rfl R0
  · rw [if_pos c, if_pos c]
    exact lw_rt rfl R0
