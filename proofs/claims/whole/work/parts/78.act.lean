theorem mk_plainKeeps_0 {n c x : Int} {E : td_D} (h : bm_o n 0 c E) (hc : c ≤ 4000) : F_X12_plainKeeps n x E = some (tv_w (x + n), mL_o [1] E) := by
  have hk := h.2.2.1
  have n50 : 0 ≤ n ∧ n < ((50 : Nat) : Int) := ⟨h.2.2.2.1, by have := h.2.2.2.2; omega⟩
  unfold F_X12_plainKeeps
  rw [fm_ran h.1, td_bs] <;> rfl
theorem mk_frostKeeps_0 {n c x : Int} {E : td_D} (h : bm_o n 0 c E) (hc : c ≤ 3940) : F_X12_frostKeeps n x E = some (tv_w ((tv_w (x + n)) * 2), mL_o [70, 1] E) := by
  have hk := h.2.2.1
  have n50 : 0 ≤ n ∧ n < ((50 : Nat) : Int) := ⟨h.2.2.2.1, by have := h.2.2.2.2; omega⟩
  unfold F_X12_frostKeeps
  rw [fm_ran h.1, td_bs]
  have h1 := bm_s (b := 70) (by omega) h
  rw [mk_plainKeeps_0 h1 (by omega), td_bs] <;> rfl
theorem mk_keeping_0 {n c x : Int} {E : td_D} (h : bm_o n 0 c E) (hc : c ≤ 3880) : F_X12_keeping n x E = some ((tv_w (x + n)), mL_o [1] E) := by
  have hk := h.2.2.1
  have n50 : 0 ≤ n ∧ n < ((50 : Nat) : Int) := ⟨h.2.2.2.1, by have := h.2.2.2.2; omega⟩
  unfold F_X12_keeping
  rw [if_pos n50, hk, fm_isU, td_bs, show iu_o 0 1 = 0 from rfl, if_pos (show (0 : Int) = 0 from rfl), hk, if_neg (show ¬ (0 : Int) = 7 by decide), if_neg (show ¬ (0 : Int) = 6 by decide)]
  rw [mk_plainKeeps_0 h (by omega), td_bs] <;> rfl
theorem mk_plainStings_0 {n c x : Int} {E : td_D} (h : bm_o n 0 c E) (hc : c ≤ 3820) : F_X12_plainStings n x E = some (tv_w ((tv_w (x + n)) * 2), mL_o [10, 1] E) := by
  have hk := h.2.2.1
  have n50 : 0 ≤ n ∧ n < ((50 : Nat) : Int) := ⟨h.2.2.2.1, by have := h.2.2.2.2; omega⟩
  unfold F_X12_plainStings
  rw [fm_ran h.1, td_bs]
  have h1 := bm_s (b := 10) (by omega) h
  rw [mk_keeping_0 h1 (by omega), td_bs] <;> rfl
theorem mk_veilStings_0 {n c x : Int} {E : td_D} (h : bm_o n 0 c E) (hc : c ≤ 3760) : F_X12_veilStings n x E = some (tv_w (-(tv_w ((tv_w (x + n)) * 2))), mL_o [30, 10, 1] E) := by
  have hk := h.2.2.1
  have n50 : 0 ≤ n ∧ n < ((50 : Nat) : Int) := ⟨h.2.2.2.1, by have := h.2.2.2.2; omega⟩
  unfold F_X12_veilStings
  rw [fm_ran h.1, td_bs]
  have h1 := bm_s (b := 30) (by omega) h
  rw [mk_plainStings_0 h1 (by omega), td_bs] <;> rfl
theorem mk_plainGrows_0 {n c x : Int} {E : td_D} (h : bm_o n 0 c E) (hc : c ≤ 3700) : F_X12_plainGrows n x E = some (tv_xor x n, mL_o [11] E) := by
  have hk := h.2.2.1
  have n50 : 0 ≤ n ∧ n < ((50 : Nat) : Int) := ⟨h.2.2.2.1, by have := h.2.2.2.2; omega⟩
  unfold F_X12_plainGrows
  rw [fm_ran h.1, td_bs] <;> rfl
theorem mk_slateGrows_0 {n c x : Int} {E : td_D} (h : bm_o n 0 c E) (hc : c ≤ 3640) : F_X12_slateGrows n x E = some (tv_w ((tv_xor x n) * 3), mL_o [40, 11] E) := by
  have hk := h.2.2.1
  have n50 : 0 ≤ n ∧ n < ((50 : Nat) : Int) := ⟨h.2.2.2.1, by have := h.2.2.2.2; omega⟩
  unfold F_X12_slateGrows
  rw [fm_ran h.1, td_bs]
  have h1 := bm_s (b := 40) (by omega) h
  rw [mk_plainGrows_0 h1 (by omega), td_bs] <;> rfl
theorem mk_growing_0 {n c x : Int} {E : td_D} (h : bm_o n 0 c E) (hc : c ≤ 3580) : F_X12_growing n x E = some ((tv_xor x n), mL_o [11] E) := by
  have hk := h.2.2.1
  have n50 : 0 ≤ n ∧ n < ((50 : Nat) : Int) := ⟨h.2.2.2.1, by have := h.2.2.2.2; omega⟩
  unfold F_X12_growing
  rw [if_pos n50, hk, if_neg (show ¬ (0 : Int) = 5 by decide), if_neg (show ¬ (0 : Int) = 3 by decide)]
  rw [mk_plainGrows_0 h (by omega), td_bs] <;> rfl
theorem mk_stinging_0 {n c x : Int} {E : td_D} (h : bm_o n 0 c E) (hc : c ≤ 3520) : F_X12_stinging n x E = some ((tv_w ((tv_w (x + n)) * 2)), mL_o [10, 1] E) := by
  have hk := h.2.2.1
  have n50 : 0 ≤ n ∧ n < ((50 : Nat) : Int) := ⟨h.2.2.2.1, by have := h.2.2.2.2; omega⟩
  unfold F_X12_stinging
  rw [if_pos n50, hk, fm_isU, td_bs, show iu_o 0 3 = 0 from rfl, if_pos (show (0 : Int) = 0 from rfl), hk, if_neg (show ¬ (0 : Int) = 7 by decide), if_neg (show ¬ (0 : Int) = 2 by decide)]
  rw [mk_plainStings_0 h (by omega), td_bs] <;> rfl
theorem mk_plainTells_0 {n c x : Int} {E : td_D} (h : bm_o n 0 c E) (hc : c ≤ 3460) : F_X12_plainTells n x E = some (tv_w ((tv_w ((tv_w (x + n)) * 2)) - (tv_xor 1 n)), mL_o [2, 10, 1, 11] E) := by
  have hk := h.2.2.1
  have n50 : 0 ≤ n ∧ n < ((50 : Nat) : Int) := ⟨h.2.2.2.1, by have := h.2.2.2.2; omega⟩
  unfold F_X12_plainTells
  rw [fm_ran h.1, td_bs]
  have h1 := bm_s (b := 2) (by omega) h
  rw [mk_stinging_0 h1 (by omega), td_bs]
  have h2 := bm_L [10, 1] _ _ (by simp only [List.length_cons, List.length_nil]; omega) h1
  simp only [List.length_cons, List.length_nil] at h2
  rw [mk_growing_0 h2 (by omega), td_bs] <;> rfl
theorem mk_telling_0 {n c x : Int} {E : td_D} (h : bm_o n 0 c E) (hc : c ≤ 3400) : F_X12_telling n x E = some ((tv_w ((tv_w ((tv_w (x + n)) * 2)) - (tv_xor 1 n))), mL_o [2, 10, 1, 11] E) := by
  have hk := h.2.2.1
  have n50 : 0 ≤ n ∧ n < ((50 : Nat) : Int) := ⟨h.2.2.2.1, by have := h.2.2.2.2; omega⟩
  unfold F_X12_telling
  rw [if_pos n50, hk, if_neg (show ¬ (0 : Int) = 4 by decide), if_neg (show ¬ (0 : Int) = 5 by decide)]
  rw [mk_plainTells_0 h (by omega), td_bs] <;> rfl
theorem mk_plainKeeps_1 {n c x : Int} {E : td_D} (h : bm_o n 1 c E) (hc : c ≤ 4000) : F_X12_plainKeeps n x E = some (tv_w (x + n), mL_o [1] E) := by
  have hk := h.2.2.1
  have n50 : 0 ≤ n ∧ n < ((50 : Nat) : Int) := ⟨h.2.2.2.1, by have := h.2.2.2.2; omega⟩
  unfold F_X12_plainKeeps
  rw [fm_ran h.1, td_bs] <;> rfl
theorem mk_frostKeeps_1 {n c x : Int} {E : td_D} (h : bm_o n 1 c E) (hc : c ≤ 3940) : F_X12_frostKeeps n x E = some (tv_w ((tv_w (x + n)) * 2), mL_o [70, 1] E) := by
  have hk := h.2.2.1
  have n50 : 0 ≤ n ∧ n < ((50 : Nat) : Int) := ⟨h.2.2.2.1, by have := h.2.2.2.2; omega⟩
  unfold F_X12_frostKeeps
  rw [fm_ran h.1, td_bs]
  have h1 := bm_s (b := 70) (by omega) h
  rw [mk_plainKeeps_1 h1 (by omega), td_bs] <;> rfl
theorem mk_keeping_1 {n c x : Int} {E : td_D} (h : bm_o n 1 c E) (hc : c ≤ 3880) : F_X12_keeping n x E = some (tv_w ((tv_w (x + n)) + 3), mL_o [20, 1] E) := by
  have hk := h.2.2.1
  have n50 : 0 ≤ n ∧ n < ((50 : Nat) : Int) := ⟨h.2.2.2.1, by have := h.2.2.2.2; omega⟩
  unfold F_X12_keeping
  rw [if_pos n50, hk, fm_isU, td_bs, show iu_o 1 1 = 1 from rfl, if_neg (show ¬ (1 : Int) = 0 by decide)]
  rw [fm_ran h.1, td_bs]
  have h1 := bm_s (b := 20) (by omega) h
  rw [mk_plainKeeps_1 h1 (by omega), td_bs] <;> rfl
theorem mk_plainStings_1 {n c x : Int} {E : td_D} (h : bm_o n 1 c E) (hc : c ≤ 3820) : F_X12_plainStings n x E = some (tv_w ((tv_w ((tv_w (x + n)) + 3)) * 2), mL_o [10, 20, 1] E) := by
  have hk := h.2.2.1
  have n50 : 0 ≤ n ∧ n < ((50 : Nat) : Int) := ⟨h.2.2.2.1, by have := h.2.2.2.2; omega⟩
  unfold F_X12_plainStings
  rw [fm_ran h.1, td_bs]
  have h1 := bm_s (b := 10) (by omega) h
  rw [mk_keeping_1 h1 (by omega), td_bs] <;> rfl
theorem mk_veilStings_1 {n c x : Int} {E : td_D} (h : bm_o n 1 c E) (hc : c ≤ 3760) : F_X12_veilStings n x E = some (tv_w (-(tv_w ((tv_w ((tv_w (x + n)) + 3)) * 2))), mL_o [30, 10, 20, 1] E) := by
  have hk := h.2.2.1
  have n50 : 0 ≤ n ∧ n < ((50 : Nat) : Int) := ⟨h.2.2.2.1, by have := h.2.2.2.2; omega⟩
  unfold F_X12_veilStings
  rw [fm_ran h.1, td_bs]
  have h1 := bm_s (b := 30) (by omega) h
  rw [mk_plainStings_1 h1 (by omega), td_bs] <;> rfl
theorem mk_plainGrows_1 {n c x : Int} {E : td_D} (h : bm_o n 1 c E) (hc : c ≤ 3700) : F_X12_plainGrows n x E = some (tv_xor x n, mL_o [11] E) := by
  have hk := h.2.2.1
  have n50 : 0 ≤ n ∧ n < ((50 : Nat) : Int) := ⟨h.2.2.2.1, by have := h.2.2.2.2; omega⟩
  unfold F_X12_plainGrows
  rw [fm_ran h.1, td_bs] <;> rfl
theorem mk_slateGrows_1 {n c x : Int} {E : td_D} (h : bm_o n 1 c E) (hc : c ≤ 3640) : F_X12_slateGrows n x E = some (tv_w ((tv_xor x n) * 3), mL_o [40, 11] E) := by
  have hk := h.2.2.1
  have n50 : 0 ≤ n ∧ n < ((50 : Nat) : Int) := ⟨h.2.2.2.1, by have := h.2.2.2.2; omega⟩
  unfold F_X12_slateGrows
  rw [fm_ran h.1, td_bs]
  have h1 := bm_s (b := 40) (by omega) h
  rw [mk_plainGrows_1 h1 (by omega), td_bs] <;> rfl
theorem mk_growing_1 {n c x : Int} {E : td_D} (h : bm_o n 1 c E) (hc : c ≤ 3580) : F_X12_growing n x E = some ((tv_xor x n), mL_o [11] E) := by
  have hk := h.2.2.1
  have n50 : 0 ≤ n ∧ n < ((50 : Nat) : Int) := ⟨h.2.2.2.1, by have := h.2.2.2.2; omega⟩
  unfold F_X12_growing
  rw [if_pos n50, hk, if_neg (show ¬ (1 : Int) = 5 by decide), if_neg (show ¬ (1 : Int) = 3 by decide)]
  rw [mk_plainGrows_1 h (by omega), td_bs] <;> rfl
theorem mk_stinging_1 {n c x : Int} {E : td_D} (h : bm_o n 1 c E) (hc : c ≤ 3520) : F_X12_stinging n x E = some ((tv_w ((tv_w ((tv_w (x + n)) + 3)) * 2)), mL_o [10, 20, 1] E) := by
  have hk := h.2.2.1
  have n50 : 0 ≤ n ∧ n < ((50 : Nat) : Int) := ⟨h.2.2.2.1, by have := h.2.2.2.2; omega⟩
  unfold F_X12_stinging
  rw [if_pos n50, hk, fm_isU, td_bs, show iu_o 1 3 = 0 from rfl, if_pos (show (0 : Int) = 0 from rfl), hk, if_neg (show ¬ (1 : Int) = 7 by decide), if_neg (show ¬ (1 : Int) = 2 by decide)]
  rw [mk_plainStings_1 h (by omega), td_bs] <;> rfl
theorem mk_plainTells_1 {n c x : Int} {E : td_D} (h : bm_o n 1 c E) (hc : c ≤ 3460) : F_X12_plainTells n x E = some (tv_w ((tv_w ((tv_w ((tv_w (x + n)) + 3)) * 2)) - (tv_xor 1 n)), mL_o [2, 10, 20, 1, 11] E) := by
  have hk := h.2.2.1
  have n50 : 0 ≤ n ∧ n < ((50 : Nat) : Int) := ⟨h.2.2.2.1, by have := h.2.2.2.2; omega⟩
  unfold F_X12_plainTells
  rw [fm_ran h.1, td_bs]
  have h1 := bm_s (b := 2) (by omega) h
  rw [mk_stinging_1 h1 (by omega), td_bs]
  have h2 := bm_L [10, 20, 1] _ _ (by simp only [List.length_cons, List.length_nil]; omega) h1
  simp only [List.length_cons, List.length_nil] at h2
  rw [mk_growing_1 h2 (by omega), td_bs] <;> rfl
theorem mk_telling_1 {n c x : Int} {E : td_D} (h : bm_o n 1 c E) (hc : c ≤ 3400) : F_X12_telling n x E = some ((tv_w ((tv_w ((tv_w ((tv_w (x + n)) + 3)) * 2)) - (tv_xor 1 n))), mL_o [2, 10, 20, 1, 11] E) := by
  have hk := h.2.2.1
  have n50 : 0 ≤ n ∧ n < ((50 : Nat) : Int) := ⟨h.2.2.2.1, by have := h.2.2.2.2; omega⟩
  unfold F_X12_telling
  rw [if_pos n50, hk, if_neg (show ¬ (1 : Int) = 4 by decide), if_neg (show ¬ (1 : Int) = 5 by decide)]
  rw [mk_plainTells_1 h (by omega), td_bs] <;> rfl
theorem mk_plainKeeps_2 {n c x : Int} {E : td_D} (h : bm_o n 2 c E) (hc : c ≤ 4000) : F_X12_plainKeeps n x E = some (tv_w (x + n), mL_o [1] E) := by
  have hk := h.2.2.1
  have n50 : 0 ≤ n ∧ n < ((50 : Nat) : Int) := ⟨h.2.2.2.1, by have := h.2.2.2.2; omega⟩
  unfold F_X12_plainKeeps
  rw [fm_ran h.1, td_bs] <;> rfl
theorem mk_frostKeeps_2 {n c x : Int} {E : td_D} (h : bm_o n 2 c E) (hc : c ≤ 3940) : F_X12_frostKeeps n x E = some (tv_w ((tv_w (x + n)) * 2), mL_o [70, 1] E) := by
  have hk := h.2.2.1
  have n50 : 0 ≤ n ∧ n < ((50 : Nat) : Int) := ⟨h.2.2.2.1, by have := h.2.2.2.2; omega⟩
  unfold F_X12_frostKeeps
  rw [fm_ran h.1, td_bs]
  have h1 := bm_s (b := 70) (by omega) h
  rw [mk_plainKeeps_2 h1 (by omega), td_bs] <;> rfl
theorem mk_keeping_2 {n c x : Int} {E : td_D} (h : bm_o n 2 c E) (hc : c ≤ 3880) : F_X12_keeping n x E = some ((tv_w (x + n)), mL_o [1] E) := by
  have hk := h.2.2.1
  have n50 : 0 ≤ n ∧ n < ((50 : Nat) : Int) := ⟨h.2.2.2.1, by have := h.2.2.2.2; omega⟩
  unfold F_X12_keeping
  rw [if_pos n50, hk, fm_isU, td_bs, show iu_o 2 1 = 0 from rfl, if_pos (show (0 : Int) = 0 from rfl), hk, if_neg (show ¬ (2 : Int) = 7 by decide), if_neg (show ¬ (2 : Int) = 6 by decide)]
  rw [mk_plainKeeps_2 h (by omega), td_bs] <;> rfl
theorem mk_plainStings_2 {n c x : Int} {E : td_D} (h : bm_o n 2 c E) (hc : c ≤ 3820) : F_X12_plainStings n x E = some (tv_w ((tv_w (x + n)) * 2), mL_o [10, 1] E) := by
  have hk := h.2.2.1
  have n50 : 0 ≤ n ∧ n < ((50 : Nat) : Int) := ⟨h.2.2.2.1, by have := h.2.2.2.2; omega⟩
  unfold F_X12_plainStings
  rw [fm_ran h.1, td_bs]
  have h1 := bm_s (b := 10) (by omega) h
  rw [mk_keeping_2 h1 (by omega), td_bs] <;> rfl
theorem mk_veilStings_2 {n c x : Int} {E : td_D} (h : bm_o n 2 c E) (hc : c ≤ 3760) : F_X12_veilStings n x E = some (tv_w (-(tv_w ((tv_w (x + n)) * 2))), mL_o [30, 10, 1] E) := by
  have hk := h.2.2.1
  have n50 : 0 ≤ n ∧ n < ((50 : Nat) : Int) := ⟨h.2.2.2.1, by have := h.2.2.2.2; omega⟩
  unfold F_X12_veilStings
  rw [fm_ran h.1, td_bs]
  have h1 := bm_s (b := 30) (by omega) h
  rw [mk_plainStings_2 h1 (by omega), td_bs] <;> rfl
theorem mk_plainGrows_2 {n c x : Int} {E : td_D} (h : bm_o n 2 c E) (hc : c ≤ 3700) : F_X12_plainGrows n x E = some (tv_xor x n, mL_o [11] E) := by
  have hk := h.2.2.1
  have n50 : 0 ≤ n ∧ n < ((50 : Nat) : Int) := ⟨h.2.2.2.1, by have := h.2.2.2.2; omega⟩
  unfold F_X12_plainGrows
  rw [fm_ran h.1, td_bs] <;> rfl
theorem mk_slateGrows_2 {n c x : Int} {E : td_D} (h : bm_o n 2 c E) (hc : c ≤ 3640) : F_X12_slateGrows n x E = some (tv_w ((tv_xor x n) * 3), mL_o [40, 11] E) := by
  have hk := h.2.2.1
  have n50 : 0 ≤ n ∧ n < ((50 : Nat) : Int) := ⟨h.2.2.2.1, by have := h.2.2.2.2; omega⟩
  unfold F_X12_slateGrows
  rw [fm_ran h.1, td_bs]
  have h1 := bm_s (b := 40) (by omega) h
  rw [mk_plainGrows_2 h1 (by omega), td_bs] <;> rfl
theorem mk_growing_2 {n c x : Int} {E : td_D} (h : bm_o n 2 c E) (hc : c ≤ 3580) : F_X12_growing n x E = some ((tv_xor x n), mL_o [11] E) := by
  have hk := h.2.2.1
  have n50 : 0 ≤ n ∧ n < ((50 : Nat) : Int) := ⟨h.2.2.2.1, by have := h.2.2.2.2; omega⟩
  unfold F_X12_growing
  rw [if_pos n50, hk, if_neg (show ¬ (2 : Int) = 5 by decide), if_neg (show ¬ (2 : Int) = 3 by decide)]
  rw [mk_plainGrows_2 h (by omega), td_bs] <;> rfl
theorem mk_stinging_2 {n c x : Int} {E : td_D} (h : bm_o n 2 c E) (hc : c ≤ 3520) : F_X12_stinging n x E = some ((tv_w (-(tv_w ((tv_w (x + n)) * 2)))), mL_o [30, 10, 1] E) := by
  have hk := h.2.2.1
  have n50 : 0 ≤ n ∧ n < ((50 : Nat) : Int) := ⟨h.2.2.2.1, by have := h.2.2.2.2; omega⟩
  unfold F_X12_stinging
  rw [if_pos n50, hk, fm_isU, td_bs, show iu_o 2 3 = 0 from rfl, if_pos (show (0 : Int) = 0 from rfl), hk, if_neg (show ¬ (2 : Int) = 7 by decide), if_pos (show (2 : Int) = 2 from rfl)]
  rw [mk_veilStings_2 h (by omega), td_bs] <;> rfl
theorem mk_plainTells_2 {n c x : Int} {E : td_D} (h : bm_o n 2 c E) (hc : c ≤ 3460) : F_X12_plainTells n x E = some (tv_w ((tv_w (-(tv_w ((tv_w (x + n)) * 2)))) - (tv_xor 1 n)), mL_o [2, 30, 10, 1, 11] E) := by
  have hk := h.2.2.1
  have n50 : 0 ≤ n ∧ n < ((50 : Nat) : Int) := ⟨h.2.2.2.1, by have := h.2.2.2.2; omega⟩
  unfold F_X12_plainTells
  rw [fm_ran h.1, td_bs]
  have h1 := bm_s (b := 2) (by omega) h
  rw [mk_stinging_2 h1 (by omega), td_bs]
  have h2 := bm_L [30, 10, 1] _ _ (by simp only [List.length_cons, List.length_nil]; omega) h1
  simp only [List.length_cons, List.length_nil] at h2
  rw [mk_growing_2 h2 (by omega), td_bs] <;> rfl
theorem mk_telling_2 {n c x : Int} {E : td_D} (h : bm_o n 2 c E) (hc : c ≤ 3400) : F_X12_telling n x E = some ((tv_w ((tv_w (-(tv_w ((tv_w (x + n)) * 2)))) - (tv_xor 1 n))), mL_o [2, 30, 10, 1, 11] E) := by
  have hk := h.2.2.1
  have n50 : 0 ≤ n ∧ n < ((50 : Nat) : Int) := ⟨h.2.2.2.1, by have := h.2.2.2.2; omega⟩
  unfold F_X12_telling
  rw [if_pos n50, hk, if_neg (show ¬ (2 : Int) = 4 by decide), if_neg (show ¬ (2 : Int) = 5 by decide)]
  rw [mk_plainTells_2 h (by omega), td_bs] <;> rfl
theorem mk_plainKeeps_3 {n c x : Int} {E : td_D} (h : bm_o n 3 c E) (hc : c ≤ 4000) : F_X12_plainKeeps n x E = some (tv_w (x + n), mL_o [1] E) := by
  have hk := h.2.2.1
  have n50 : 0 ≤ n ∧ n < ((50 : Nat) : Int) := ⟨h.2.2.2.1, by have := h.2.2.2.2; omega⟩
  unfold F_X12_plainKeeps
  rw [fm_ran h.1, td_bs] <;> rfl
theorem mk_frostKeeps_3 {n c x : Int} {E : td_D} (h : bm_o n 3 c E) (hc : c ≤ 3940) : F_X12_frostKeeps n x E = some (tv_w ((tv_w (x + n)) * 2), mL_o [70, 1] E) := by
  have hk := h.2.2.1
  have n50 : 0 ≤ n ∧ n < ((50 : Nat) : Int) := ⟨h.2.2.2.1, by have := h.2.2.2.2; omega⟩
  unfold F_X12_frostKeeps
  rw [fm_ran h.1, td_bs]
  have h1 := bm_s (b := 70) (by omega) h
  rw [mk_plainKeeps_3 h1 (by omega), td_bs] <;> rfl
theorem mk_keeping_3 {n c x : Int} {E : td_D} (h : bm_o n 3 c E) (hc : c ≤ 3880) : F_X12_keeping n x E = some ((tv_w (x + n)), mL_o [1] E) := by
  have hk := h.2.2.1
  have n50 : 0 ≤ n ∧ n < ((50 : Nat) : Int) := ⟨h.2.2.2.1, by have := h.2.2.2.2; omega⟩
  unfold F_X12_keeping
  rw [if_pos n50, hk, fm_isU, td_bs, show iu_o 3 1 = 0 from rfl, if_pos (show (0 : Int) = 0 from rfl), hk, if_neg (show ¬ (3 : Int) = 7 by decide), if_neg (show ¬ (3 : Int) = 6 by decide)]
  rw [mk_plainKeeps_3 h (by omega), td_bs] <;> rfl
theorem mk_plainStings_3 {n c x : Int} {E : td_D} (h : bm_o n 3 c E) (hc : c ≤ 3820) : F_X12_plainStings n x E = some (tv_w ((tv_w (x + n)) * 2), mL_o [10, 1] E) := by
  have hk := h.2.2.1
  have n50 : 0 ≤ n ∧ n < ((50 : Nat) : Int) := ⟨h.2.2.2.1, by have := h.2.2.2.2; omega⟩
  unfold F_X12_plainStings
  rw [fm_ran h.1, td_bs]
  have h1 := bm_s (b := 10) (by omega) h
  rw [mk_keeping_3 h1 (by omega), td_bs] <;> rfl
theorem mk_veilStings_3 {n c x : Int} {E : td_D} (h : bm_o n 3 c E) (hc : c ≤ 3760) : F_X12_veilStings n x E = some (tv_w (-(tv_w ((tv_w (x + n)) * 2))), mL_o [30, 10, 1] E) := by
  have hk := h.2.2.1
  have n50 : 0 ≤ n ∧ n < ((50 : Nat) : Int) := ⟨h.2.2.2.1, by have := h.2.2.2.2; omega⟩
  unfold F_X12_veilStings
  rw [fm_ran h.1, td_bs]
  have h1 := bm_s (b := 30) (by omega) h
  rw [mk_plainStings_3 h1 (by omega), td_bs] <;> rfl
theorem mk_plainGrows_3 {n c x : Int} {E : td_D} (h : bm_o n 3 c E) (hc : c ≤ 3700) : F_X12_plainGrows n x E = some (tv_xor x n, mL_o [11] E) := by
  have hk := h.2.2.1
  have n50 : 0 ≤ n ∧ n < ((50 : Nat) : Int) := ⟨h.2.2.2.1, by have := h.2.2.2.2; omega⟩
  unfold F_X12_plainGrows
  rw [fm_ran h.1, td_bs] <;> rfl
theorem mk_slateGrows_3 {n c x : Int} {E : td_D} (h : bm_o n 3 c E) (hc : c ≤ 3640) : F_X12_slateGrows n x E = some (tv_w ((tv_xor x n) * 3), mL_o [40, 11] E) := by
  have hk := h.2.2.1
  have n50 : 0 ≤ n ∧ n < ((50 : Nat) : Int) := ⟨h.2.2.2.1, by have := h.2.2.2.2; omega⟩
  unfold F_X12_slateGrows
  rw [fm_ran h.1, td_bs]
  have h1 := bm_s (b := 40) (by omega) h
  rw [mk_plainGrows_3 h1 (by omega), td_bs] <;> rfl
theorem mk_growing_3 {n c x : Int} {E : td_D} (h : bm_o n 3 c E) (hc : c ≤ 3580) : F_X12_growing n x E = some ((tv_w ((tv_xor x n) * 3)), mL_o [40, 11] E) := by
  have hk := h.2.2.1
  have n50 : 0 ≤ n ∧ n < ((50 : Nat) : Int) := ⟨h.2.2.2.1, by have := h.2.2.2.2; omega⟩
  unfold F_X12_growing
  rw [if_pos n50, hk, if_neg (show ¬ (3 : Int) = 5 by decide), if_pos (show (3 : Int) = 3 from rfl)]
  rw [mk_slateGrows_3 h (by omega), td_bs] <;> rfl
theorem mk_stinging_3 {n c x : Int} {E : td_D} (h : bm_o n 3 c E) (hc : c ≤ 3520) : F_X12_stinging n x E = some ((tv_w (-(tv_w ((tv_w ((tv_w (x + 1)) + n)) * 2)))), mL_o [41, 30, 10, 1] E) := by
  have hk := h.2.2.1
  have n50 : 0 ≤ n ∧ n < ((50 : Nat) : Int) := ⟨h.2.2.2.1, by have := h.2.2.2.2; omega⟩
  unfold F_X12_stinging
  rw [if_pos n50, hk, fm_isU, td_bs, show iu_o 3 3 = 1 from rfl, if_neg (show ¬ (1 : Int) = 0 by decide)]
  rw [fm_ran h.1, td_bs]
  have h1 := bm_s (b := 41) (by omega) h
  rw [mk_veilStings_3 h1 (by omega), td_bs] <;> rfl
theorem mk_plainTells_3 {n c x : Int} {E : td_D} (h : bm_o n 3 c E) (hc : c ≤ 3460) : F_X12_plainTells n x E = some (tv_w ((tv_w (-(tv_w ((tv_w ((tv_w (x + 1)) + n)) * 2)))) - (tv_w ((tv_xor 1 n) * 3))), mL_o [2, 41, 30, 10, 1, 40, 11] E) := by
  have hk := h.2.2.1
  have n50 : 0 ≤ n ∧ n < ((50 : Nat) : Int) := ⟨h.2.2.2.1, by have := h.2.2.2.2; omega⟩
  unfold F_X12_plainTells
  rw [fm_ran h.1, td_bs]
  have h1 := bm_s (b := 2) (by omega) h
  rw [mk_stinging_3 h1 (by omega), td_bs]
  have h2 := bm_L [41, 30, 10, 1] _ _ (by simp only [List.length_cons, List.length_nil]; omega) h1
  simp only [List.length_cons, List.length_nil] at h2
  rw [mk_growing_3 h2 (by omega), td_bs] <;> rfl
theorem mk_telling_3 {n c x : Int} {E : td_D} (h : bm_o n 3 c E) (hc : c ≤ 3400) : F_X12_telling n x E = some ((tv_w ((tv_w (-(tv_w ((tv_w ((tv_w (x + 1)) + n)) * 2)))) - (tv_w ((tv_xor 1 n) * 3)))), mL_o [2, 41, 30, 10, 1, 40, 11] E) := by
  have hk := h.2.2.1
  have n50 : 0 ≤ n ∧ n < ((50 : Nat) : Int) := ⟨h.2.2.2.1, by have := h.2.2.2.2; omega⟩
  unfold F_X12_telling
  rw [if_pos n50, hk, if_neg (show ¬ (3 : Int) = 4 by decide), if_neg (show ¬ (3 : Int) = 5 by decide)]
  rw [mk_plainTells_3 h (by omega), td_bs] <;> rfl
theorem mk_plainKeeps_4 {n c x : Int} {E : td_D} (h : bm_o n 4 c E) (hc : c ≤ 4000) : F_X12_plainKeeps n x E = some (tv_w (x + n), mL_o [1] E) := by
  have hk := h.2.2.1
  have n50 : 0 ≤ n ∧ n < ((50 : Nat) : Int) := ⟨h.2.2.2.1, by have := h.2.2.2.2; omega⟩
  unfold F_X12_plainKeeps
  rw [fm_ran h.1, td_bs] <;> rfl
theorem mk_frostKeeps_4 {n c x : Int} {E : td_D} (h : bm_o n 4 c E) (hc : c ≤ 3940) : F_X12_frostKeeps n x E = some (tv_w ((tv_w (x + n)) * 2), mL_o [70, 1] E) := by
  have hk := h.2.2.1
  have n50 : 0 ≤ n ∧ n < ((50 : Nat) : Int) := ⟨h.2.2.2.1, by have := h.2.2.2.2; omega⟩
  unfold F_X12_frostKeeps
  rw [fm_ran h.1, td_bs]
  have h1 := bm_s (b := 70) (by omega) h
  rw [mk_plainKeeps_4 h1 (by omega), td_bs] <;> rfl
theorem mk_keeping_4 {n c x : Int} {E : td_D} (h : bm_o n 4 c E) (hc : c ≤ 3880) : F_X12_keeping n x E = some (tv_w ((tv_w (x + n)) + 3), mL_o [20, 1] E) := by
  have hk := h.2.2.1
  have n50 : 0 ≤ n ∧ n < ((50 : Nat) : Int) := ⟨h.2.2.2.1, by have := h.2.2.2.2; omega⟩
  unfold F_X12_keeping
  rw [if_pos n50, hk, fm_isU, td_bs, show iu_o 4 1 = 1 from rfl, if_neg (show ¬ (1 : Int) = 0 by decide)]
  rw [fm_ran h.1, td_bs]
  have h1 := bm_s (b := 20) (by omega) h
  rw [mk_plainKeeps_4 h1 (by omega), td_bs] <;> rfl
theorem mk_plainStings_4 {n c x : Int} {E : td_D} (h : bm_o n 4 c E) (hc : c ≤ 3820) : F_X12_plainStings n x E = some (tv_w ((tv_w ((tv_w (x + n)) + 3)) * 2), mL_o [10, 20, 1] E) := by
  have hk := h.2.2.1
  have n50 : 0 ≤ n ∧ n < ((50 : Nat) : Int) := ⟨h.2.2.2.1, by have := h.2.2.2.2; omega⟩
  unfold F_X12_plainStings
  rw [fm_ran h.1, td_bs]
  have h1 := bm_s (b := 10) (by omega) h
  rw [mk_keeping_4 h1 (by omega), td_bs] <;> rfl
theorem mk_veilStings_4 {n c x : Int} {E : td_D} (h : bm_o n 4 c E) (hc : c ≤ 3760) : F_X12_veilStings n x E = some (tv_w (-(tv_w ((tv_w ((tv_w (x + n)) + 3)) * 2))), mL_o [30, 10, 20, 1] E) := by
  have hk := h.2.2.1
  have n50 : 0 ≤ n ∧ n < ((50 : Nat) : Int) := ⟨h.2.2.2.1, by have := h.2.2.2.2; omega⟩
  unfold F_X12_veilStings
  rw [fm_ran h.1, td_bs]
  have h1 := bm_s (b := 30) (by omega) h
  rw [mk_plainStings_4 h1 (by omega), td_bs] <;> rfl
theorem mk_plainGrows_4 {n c x : Int} {E : td_D} (h : bm_o n 4 c E) (hc : c ≤ 3700) : F_X12_plainGrows n x E = some (tv_xor x n, mL_o [11] E) := by
  have hk := h.2.2.1
  have n50 : 0 ≤ n ∧ n < ((50 : Nat) : Int) := ⟨h.2.2.2.1, by have := h.2.2.2.2; omega⟩
  unfold F_X12_plainGrows
  rw [fm_ran h.1, td_bs] <;> rfl
theorem mk_slateGrows_4 {n c x : Int} {E : td_D} (h : bm_o n 4 c E) (hc : c ≤ 3640) : F_X12_slateGrows n x E = some (tv_w ((tv_xor x n) * 3), mL_o [40, 11] E) := by
  have hk := h.2.2.1
  have n50 : 0 ≤ n ∧ n < ((50 : Nat) : Int) := ⟨h.2.2.2.1, by have := h.2.2.2.2; omega⟩
  unfold F_X12_slateGrows
  rw [fm_ran h.1, td_bs]
  have h1 := bm_s (b := 40) (by omega) h
  rw [mk_plainGrows_4 h1 (by omega), td_bs] <;> rfl
theorem mk_growing_4 {n c x : Int} {E : td_D} (h : bm_o n 4 c E) (hc : c ≤ 3580) : F_X12_growing n x E = some ((tv_xor x n), mL_o [11] E) := by
  have hk := h.2.2.1
  have n50 : 0 ≤ n ∧ n < ((50 : Nat) : Int) := ⟨h.2.2.2.1, by have := h.2.2.2.2; omega⟩
  unfold F_X12_growing
  rw [if_pos n50, hk, if_neg (show ¬ (4 : Int) = 5 by decide), if_neg (show ¬ (4 : Int) = 3 by decide)]
  rw [mk_plainGrows_4 h (by omega), td_bs] <;> rfl
theorem mk_stinging_4 {n c x : Int} {E : td_D} (h : bm_o n 4 c E) (hc : c ≤ 3520) : F_X12_stinging n x E = some ((tv_w ((tv_w ((tv_w (x + n)) + 3)) * 2)), mL_o [10, 20, 1] E) := by
  have hk := h.2.2.1
  have n50 : 0 ≤ n ∧ n < ((50 : Nat) : Int) := ⟨h.2.2.2.1, by have := h.2.2.2.2; omega⟩
  unfold F_X12_stinging
  rw [if_pos n50, hk, fm_isU, td_bs, show iu_o 4 3 = 0 from rfl, if_pos (show (0 : Int) = 0 from rfl), hk, if_neg (show ¬ (4 : Int) = 7 by decide), if_neg (show ¬ (4 : Int) = 2 by decide)]
  rw [mk_plainStings_4 h (by omega), td_bs] <;> rfl
theorem mk_plainTells_4 {n c x : Int} {E : td_D} (h : bm_o n 4 c E) (hc : c ≤ 3460) : F_X12_plainTells n x E = some (tv_w ((tv_w ((tv_w ((tv_w (x + n)) + 3)) * 2)) - (tv_xor 1 n)), mL_o [2, 10, 20, 1, 11] E) := by
  have hk := h.2.2.1
  have n50 : 0 ≤ n ∧ n < ((50 : Nat) : Int) := ⟨h.2.2.2.1, by have := h.2.2.2.2; omega⟩
  unfold F_X12_plainTells
  rw [fm_ran h.1, td_bs]
  have h1 := bm_s (b := 2) (by omega) h
  rw [mk_stinging_4 h1 (by omega), td_bs]
  have h2 := bm_L [10, 20, 1] _ _ (by simp only [List.length_cons, List.length_nil]; omega) h1
  simp only [List.length_cons, List.length_nil] at h2
  rw [mk_growing_4 h2 (by omega), td_bs] <;> rfl
theorem mk_telling_4 {n c x : Int} {E : td_D} (h : bm_o n 4 c E) (hc : c ≤ 3400) : F_X12_telling n x E = some (tv_xor (tv_w ((tv_w ((tv_w ((tv_w (x + n)) + 3)) * 2)) - (tv_xor 1 n))) 5, mL_o [50, 2, 10, 20, 1, 11] E) := by
  have hk := h.2.2.1
  have n50 : 0 ≤ n ∧ n < ((50 : Nat) : Int) := ⟨h.2.2.2.1, by have := h.2.2.2.2; omega⟩
  unfold F_X12_telling
  rw [if_pos n50, hk, if_pos (show (4 : Int) = 4 from rfl)]
  rw [fm_ran h.1, td_bs]
  have h1 := bm_s (b := 50) (by omega) h
  rw [mk_plainTells_4 h1 (by omega), td_bs] <;> rfl
theorem mk_plainKeeps_5 {n c x : Int} {E : td_D} (h : bm_o n 5 c E) (hc : c ≤ 4000) : F_X12_plainKeeps n x E = some (tv_w (x + n), mL_o [1] E) := by
  have hk := h.2.2.1
  have n50 : 0 ≤ n ∧ n < ((50 : Nat) : Int) := ⟨h.2.2.2.1, by have := h.2.2.2.2; omega⟩
  unfold F_X12_plainKeeps
  rw [fm_ran h.1, td_bs] <;> rfl
theorem mk_frostKeeps_5 {n c x : Int} {E : td_D} (h : bm_o n 5 c E) (hc : c ≤ 3940) : F_X12_frostKeeps n x E = some (tv_w ((tv_w (x + n)) * 2), mL_o [70, 1] E) := by
  have hk := h.2.2.1
  have n50 : 0 ≤ n ∧ n < ((50 : Nat) : Int) := ⟨h.2.2.2.1, by have := h.2.2.2.2; omega⟩
  unfold F_X12_frostKeeps
  rw [fm_ran h.1, td_bs]
  have h1 := bm_s (b := 70) (by omega) h
  rw [mk_plainKeeps_5 h1 (by omega), td_bs] <;> rfl
theorem mk_keeping_5 {n c x : Int} {E : td_D} (h : bm_o n 5 c E) (hc : c ≤ 3880) : F_X12_keeping n x E = some ((tv_w (x + n)), mL_o [1] E) := by
  have hk := h.2.2.1
  have n50 : 0 ≤ n ∧ n < ((50 : Nat) : Int) := ⟨h.2.2.2.1, by have := h.2.2.2.2; omega⟩
  unfold F_X12_keeping
  rw [if_pos n50, hk, fm_isU, td_bs, show iu_o 5 1 = 0 from rfl, if_pos (show (0 : Int) = 0 from rfl), hk, if_neg (show ¬ (5 : Int) = 7 by decide), if_neg (show ¬ (5 : Int) = 6 by decide)]
  rw [mk_plainKeeps_5 h (by omega), td_bs] <;> rfl
theorem mk_plainStings_5 {n c x : Int} {E : td_D} (h : bm_o n 5 c E) (hc : c ≤ 3820) : F_X12_plainStings n x E = some (tv_w ((tv_w (x + n)) * 2), mL_o [10, 1] E) := by
  have hk := h.2.2.1
  have n50 : 0 ≤ n ∧ n < ((50 : Nat) : Int) := ⟨h.2.2.2.1, by have := h.2.2.2.2; omega⟩
  unfold F_X12_plainStings
  rw [fm_ran h.1, td_bs]
  have h1 := bm_s (b := 10) (by omega) h
  rw [mk_keeping_5 h1 (by omega), td_bs] <;> rfl
theorem mk_veilStings_5 {n c x : Int} {E : td_D} (h : bm_o n 5 c E) (hc : c ≤ 3760) : F_X12_veilStings n x E = some (tv_w (-(tv_w ((tv_w (x + n)) * 2))), mL_o [30, 10, 1] E) := by
  have hk := h.2.2.1
  have n50 : 0 ≤ n ∧ n < ((50 : Nat) : Int) := ⟨h.2.2.2.1, by have := h.2.2.2.2; omega⟩
  unfold F_X12_veilStings
  rw [fm_ran h.1, td_bs]
  have h1 := bm_s (b := 30) (by omega) h
  rw [mk_plainStings_5 h1 (by omega), td_bs] <;> rfl
theorem mk_plainGrows_5 {n c x : Int} {E : td_D} (h : bm_o n 5 c E) (hc : c ≤ 3700) : F_X12_plainGrows n x E = some (tv_xor x n, mL_o [11] E) := by
  have hk := h.2.2.1
  have n50 : 0 ≤ n ∧ n < ((50 : Nat) : Int) := ⟨h.2.2.2.1, by have := h.2.2.2.2; omega⟩
  unfold F_X12_plainGrows
  rw [fm_ran h.1, td_bs] <;> rfl
theorem mk_slateGrows_5 {n c x : Int} {E : td_D} (h : bm_o n 5 c E) (hc : c ≤ 3640) : F_X12_slateGrows n x E = some (tv_w ((tv_xor x n) * 3), mL_o [40, 11] E) := by
  have hk := h.2.2.1
  have n50 : 0 ≤ n ∧ n < ((50 : Nat) : Int) := ⟨h.2.2.2.1, by have := h.2.2.2.2; omega⟩
  unfold F_X12_slateGrows
  rw [fm_ran h.1, td_bs]
  have h1 := bm_s (b := 40) (by omega) h
  rw [mk_plainGrows_5 h1 (by omega), td_bs] <;> rfl
theorem mk_growing_5 {n c x : Int} {E : td_D} (h : bm_o n 5 c E) (hc : c ≤ 3580) : F_X12_growing n x E = some (tv_w ((tv_w ((tv_xor x n) * 3)) - (tv_w (2 + n))), mL_o [60, 40, 11, 1] E) := by
  have hk := h.2.2.1
  have n50 : 0 ≤ n ∧ n < ((50 : Nat) : Int) := ⟨h.2.2.2.1, by have := h.2.2.2.2; omega⟩
  unfold F_X12_growing
  rw [if_pos n50, hk, if_pos (show (5 : Int) = 5 from rfl)]
  rw [fm_ran h.1, td_bs]
  have h1 := bm_s (b := 60) (by omega) h
  rw [mk_slateGrows_5 h1 (by omega), td_bs]
  have h2 := bm_L [40, 11] _ _ (by simp only [List.length_cons, List.length_nil]; omega) h1
  simp only [List.length_cons, List.length_nil] at h2
  rw [mk_keeping_5 h2 (by omega), td_bs] <;> rfl
theorem mk_stinging_5 {n c x : Int} {E : td_D} (h : bm_o n 5 c E) (hc : c ≤ 3520) : F_X12_stinging n x E = some ((tv_w (-(tv_w ((tv_w ((tv_w (x + 1)) + n)) * 2)))), mL_o [41, 30, 10, 1] E) := by
  have hk := h.2.2.1
  have n50 : 0 ≤ n ∧ n < ((50 : Nat) : Int) := ⟨h.2.2.2.1, by have := h.2.2.2.2; omega⟩
  unfold F_X12_stinging
  rw [if_pos n50, hk, fm_isU, td_bs, show iu_o 5 3 = 1 from rfl, if_neg (show ¬ (1 : Int) = 0 by decide)]
  rw [fm_ran h.1, td_bs]
  have h1 := bm_s (b := 41) (by omega) h
  rw [mk_veilStings_5 h1 (by omega), td_bs] <;> rfl
theorem mk_plainTells_5 {n c x : Int} {E : td_D} (h : bm_o n 5 c E) (hc : c ≤ 3460) : F_X12_plainTells n x E = some (tv_w ((tv_w (-(tv_w ((tv_w ((tv_w (x + 1)) + n)) * 2)))) - (tv_w ((tv_w ((tv_xor 1 n) * 3)) - (tv_w (2 + n))))), mL_o [2, 41, 30, 10, 1, 60, 40, 11, 1] E) := by
  have hk := h.2.2.1
  have n50 : 0 ≤ n ∧ n < ((50 : Nat) : Int) := ⟨h.2.2.2.1, by have := h.2.2.2.2; omega⟩
  unfold F_X12_plainTells
  rw [fm_ran h.1, td_bs]
  have h1 := bm_s (b := 2) (by omega) h
  rw [mk_stinging_5 h1 (by omega), td_bs]
  have h2 := bm_L [41, 30, 10, 1] _ _ (by simp only [List.length_cons, List.length_nil]; omega) h1
  simp only [List.length_cons, List.length_nil] at h2
  rw [mk_growing_5 h2 (by omega), td_bs] <;> rfl
theorem mk_telling_5 {n c x : Int} {E : td_D} (h : bm_o n 5 c E) (hc : c ≤ 3400) : F_X12_telling n x E = some (tv_w ((tv_w ((tv_w (-(tv_w ((tv_w ((tv_w (x + 1)) + n)) * 2)))) - (tv_w ((tv_w ((tv_xor 1 n) * 3)) - (tv_w (2 + n)))))) + 1), mL_o [61, 2, 41, 30, 10, 1, 60, 40, 11, 1] E) := by
  have hk := h.2.2.1
  have n50 : 0 ≤ n ∧ n < ((50 : Nat) : Int) := ⟨h.2.2.2.1, by have := h.2.2.2.2; omega⟩
  unfold F_X12_telling
  rw [if_pos n50, hk, if_neg (show ¬ (5 : Int) = 4 by decide), if_pos (show (5 : Int) = 5 from rfl)]
  rw [fm_ran h.1, td_bs]
  have h1 := bm_s (b := 61) (by omega) h
  rw [mk_plainTells_5 h1 (by omega), td_bs] <;> rfl
theorem mk_plainKeeps_6 {n c x : Int} {E : td_D} (h : bm_o n 6 c E) (hc : c ≤ 4000) : F_X12_plainKeeps n x E = some (tv_w (x + n), mL_o [1] E) := by
  have hk := h.2.2.1
  have n50 : 0 ≤ n ∧ n < ((50 : Nat) : Int) := ⟨h.2.2.2.1, by have := h.2.2.2.2; omega⟩
  unfold F_X12_plainKeeps
  rw [fm_ran h.1, td_bs] <;> rfl
theorem mk_frostKeeps_6 {n c x : Int} {E : td_D} (h : bm_o n 6 c E) (hc : c ≤ 3940) : F_X12_frostKeeps n x E = some (tv_w ((tv_w (x + n)) * 2), mL_o [70, 1] E) := by
  have hk := h.2.2.1
  have n50 : 0 ≤ n ∧ n < ((50 : Nat) : Int) := ⟨h.2.2.2.1, by have := h.2.2.2.2; omega⟩
  unfold F_X12_frostKeeps
  rw [fm_ran h.1, td_bs]
  have h1 := bm_s (b := 70) (by omega) h
  rw [mk_plainKeeps_6 h1 (by omega), td_bs] <;> rfl
theorem mk_keeping_6 {n c x : Int} {E : td_D} (h : bm_o n 6 c E) (hc : c ≤ 3880) : F_X12_keeping n x E = some ((tv_w ((tv_w (x + n)) * 2)), mL_o [70, 1] E) := by
  have hk := h.2.2.1
  have n50 : 0 ≤ n ∧ n < ((50 : Nat) : Int) := ⟨h.2.2.2.1, by have := h.2.2.2.2; omega⟩
  unfold F_X12_keeping
  rw [if_pos n50, hk, fm_isU, td_bs, show iu_o 6 1 = 0 from rfl, if_pos (show (0 : Int) = 0 from rfl), hk, if_neg (show ¬ (6 : Int) = 7 by decide), if_pos (show (6 : Int) = 6 from rfl)]
  rw [mk_frostKeeps_6 h (by omega), td_bs] <;> rfl
theorem mk_plainStings_6 {n c x : Int} {E : td_D} (h : bm_o n 6 c E) (hc : c ≤ 3820) : F_X12_plainStings n x E = some (tv_w ((tv_w ((tv_w (x + n)) * 2)) * 2), mL_o [10, 70, 1] E) := by
  have hk := h.2.2.1
  have n50 : 0 ≤ n ∧ n < ((50 : Nat) : Int) := ⟨h.2.2.2.1, by have := h.2.2.2.2; omega⟩
  unfold F_X12_plainStings
  rw [fm_ran h.1, td_bs]
  have h1 := bm_s (b := 10) (by omega) h
  rw [mk_keeping_6 h1 (by omega), td_bs] <;> rfl
theorem mk_veilStings_6 {n c x : Int} {E : td_D} (h : bm_o n 6 c E) (hc : c ≤ 3760) : F_X12_veilStings n x E = some (tv_w (-(tv_w ((tv_w ((tv_w (x + n)) * 2)) * 2))), mL_o [30, 10, 70, 1] E) := by
  have hk := h.2.2.1
  have n50 : 0 ≤ n ∧ n < ((50 : Nat) : Int) := ⟨h.2.2.2.1, by have := h.2.2.2.2; omega⟩
  unfold F_X12_veilStings
  rw [fm_ran h.1, td_bs]
  have h1 := bm_s (b := 30) (by omega) h
  rw [mk_plainStings_6 h1 (by omega), td_bs] <;> rfl
theorem mk_plainGrows_6 {n c x : Int} {E : td_D} (h : bm_o n 6 c E) (hc : c ≤ 3700) : F_X12_plainGrows n x E = some (tv_xor x n, mL_o [11] E) := by
  have hk := h.2.2.1
  have n50 : 0 ≤ n ∧ n < ((50 : Nat) : Int) := ⟨h.2.2.2.1, by have := h.2.2.2.2; omega⟩
  unfold F_X12_plainGrows
  rw [fm_ran h.1, td_bs] <;> rfl
theorem mk_slateGrows_6 {n c x : Int} {E : td_D} (h : bm_o n 6 c E) (hc : c ≤ 3640) : F_X12_slateGrows n x E = some (tv_w ((tv_xor x n) * 3), mL_o [40, 11] E) := by
  have hk := h.2.2.1
  have n50 : 0 ≤ n ∧ n < ((50 : Nat) : Int) := ⟨h.2.2.2.1, by have := h.2.2.2.2; omega⟩
  unfold F_X12_slateGrows
  rw [fm_ran h.1, td_bs]
  have h1 := bm_s (b := 40) (by omega) h
  rw [mk_plainGrows_6 h1 (by omega), td_bs] <;> rfl
theorem mk_growing_6 {n c x : Int} {E : td_D} (h : bm_o n 6 c E) (hc : c ≤ 3580) : F_X12_growing n x E = some ((tv_xor x n), mL_o [11] E) := by
  have hk := h.2.2.1
  have n50 : 0 ≤ n ∧ n < ((50 : Nat) : Int) := ⟨h.2.2.2.1, by have := h.2.2.2.2; omega⟩
  unfold F_X12_growing
  rw [if_pos n50, hk, if_neg (show ¬ (6 : Int) = 5 by decide), if_neg (show ¬ (6 : Int) = 3 by decide)]
  rw [mk_plainGrows_6 h (by omega), td_bs] <;> rfl
theorem mk_stinging_6 {n c x : Int} {E : td_D} (h : bm_o n 6 c E) (hc : c ≤ 3520) : F_X12_stinging n x E = some ((tv_w ((tv_w ((tv_w (x + n)) * 2)) * 2)), mL_o [10, 70, 1] E) := by
  have hk := h.2.2.1
  have n50 : 0 ≤ n ∧ n < ((50 : Nat) : Int) := ⟨h.2.2.2.1, by have := h.2.2.2.2; omega⟩
  unfold F_X12_stinging
  rw [if_pos n50, hk, fm_isU, td_bs, show iu_o 6 3 = 0 from rfl, if_pos (show (0 : Int) = 0 from rfl), hk, if_neg (show ¬ (6 : Int) = 7 by decide), if_neg (show ¬ (6 : Int) = 2 by decide)]
  rw [mk_plainStings_6 h (by omega), td_bs] <;> rfl
theorem mk_plainTells_6 {n c x : Int} {E : td_D} (h : bm_o n 6 c E) (hc : c ≤ 3460) : F_X12_plainTells n x E = some (tv_w ((tv_w ((tv_w ((tv_w (x + n)) * 2)) * 2)) - (tv_xor 1 n)), mL_o [2, 10, 70, 1, 11] E) := by
  have hk := h.2.2.1
  have n50 : 0 ≤ n ∧ n < ((50 : Nat) : Int) := ⟨h.2.2.2.1, by have := h.2.2.2.2; omega⟩
  unfold F_X12_plainTells
  rw [fm_ran h.1, td_bs]
  have h1 := bm_s (b := 2) (by omega) h
  rw [mk_stinging_6 h1 (by omega), td_bs]
  have h2 := bm_L [10, 70, 1] _ _ (by simp only [List.length_cons, List.length_nil]; omega) h1
  simp only [List.length_cons, List.length_nil] at h2
  rw [mk_growing_6 h2 (by omega), td_bs] <;> rfl
theorem mk_telling_6 {n c x : Int} {E : td_D} (h : bm_o n 6 c E) (hc : c ≤ 3400) : F_X12_telling n x E = some ((tv_w ((tv_w ((tv_w ((tv_w (x + n)) * 2)) * 2)) - (tv_xor 1 n))), mL_o [2, 10, 70, 1, 11] E) := by
  have hk := h.2.2.1
  have n50 : 0 ≤ n ∧ n < ((50 : Nat) : Int) := ⟨h.2.2.2.1, by have := h.2.2.2.2; omega⟩
  unfold F_X12_telling
  rw [if_pos n50, hk, if_neg (show ¬ (6 : Int) = 4 by decide), if_neg (show ¬ (6 : Int) = 5 by decide)]
  rw [mk_plainTells_6 h (by omega), td_bs] <;> rfl
theorem mk_plainKeeps_7 {n c x : Int} {E : td_D} (h : bm_o n 7 c E) (hc : c ≤ 4000) : F_X12_plainKeeps n x E = some (tv_w (x + n), mL_o [1] E) := by
  have hk := h.2.2.1
  have n50 : 0 ≤ n ∧ n < ((50 : Nat) : Int) := ⟨h.2.2.2.1, by have := h.2.2.2.2; omega⟩
  unfold F_X12_plainKeeps
  rw [fm_ran h.1, td_bs] <;> rfl
theorem mk_frostKeeps_7 {n c x : Int} {E : td_D} (h : bm_o n 7 c E) (hc : c ≤ 3940) : F_X12_frostKeeps n x E = some (tv_w ((tv_w (x + n)) * 2), mL_o [70, 1] E) := by
  have hk := h.2.2.1
  have n50 : 0 ≤ n ∧ n < ((50 : Nat) : Int) := ⟨h.2.2.2.1, by have := h.2.2.2.2; omega⟩
  unfold F_X12_frostKeeps
  rw [fm_ran h.1, td_bs]
  have h1 := bm_s (b := 70) (by omega) h
  rw [mk_plainKeeps_7 h1 (by omega), td_bs] <;> rfl
theorem mk_keeping_7 {n c x : Int} {E : td_D} (h : bm_o n 7 c E) (hc : c ≤ 3880) : F_X12_keeping n x E = some (tv_w ((tv_w ((tv_w (x + n)) * 2)) - 1), mL_o [81, 70, 1] E) := by
  have hk := h.2.2.1
  have n50 : 0 ≤ n ∧ n < ((50 : Nat) : Int) := ⟨h.2.2.2.1, by have := h.2.2.2.2; omega⟩
  unfold F_X12_keeping
  rw [if_pos n50, hk, fm_isU, td_bs, show iu_o 7 1 = 0 from rfl, if_pos (show (0 : Int) = 0 from rfl), hk, if_pos (show (7 : Int) = 7 from rfl)]
  rw [fm_ran h.1, td_bs]
  have h1 := bm_s (b := 81) (by omega) h
  rw [mk_frostKeeps_7 h1 (by omega), td_bs] <;> rfl
theorem mk_plainStings_7 {n c x : Int} {E : td_D} (h : bm_o n 7 c E) (hc : c ≤ 3820) : F_X12_plainStings n x E = some (tv_w ((tv_w ((tv_w ((tv_w (x + n)) * 2)) - 1)) * 2), mL_o [10, 81, 70, 1] E) := by
  have hk := h.2.2.1
  have n50 : 0 ≤ n ∧ n < ((50 : Nat) : Int) := ⟨h.2.2.2.1, by have := h.2.2.2.2; omega⟩
  unfold F_X12_plainStings
  rw [fm_ran h.1, td_bs]
  have h1 := bm_s (b := 10) (by omega) h
  rw [mk_keeping_7 h1 (by omega), td_bs] <;> rfl
theorem mk_veilStings_7 {n c x : Int} {E : td_D} (h : bm_o n 7 c E) (hc : c ≤ 3760) : F_X12_veilStings n x E = some (tv_w (-(tv_w ((tv_w ((tv_w ((tv_w (x + n)) * 2)) - 1)) * 2))), mL_o [30, 10, 81, 70, 1] E) := by
  have hk := h.2.2.1
  have n50 : 0 ≤ n ∧ n < ((50 : Nat) : Int) := ⟨h.2.2.2.1, by have := h.2.2.2.2; omega⟩
  unfold F_X12_veilStings
  rw [fm_ran h.1, td_bs]
  have h1 := bm_s (b := 30) (by omega) h
  rw [mk_plainStings_7 h1 (by omega), td_bs] <;> rfl
theorem mk_plainGrows_7 {n c x : Int} {E : td_D} (h : bm_o n 7 c E) (hc : c ≤ 3700) : F_X12_plainGrows n x E = some (tv_xor x n, mL_o [11] E) := by
  have hk := h.2.2.1
  have n50 : 0 ≤ n ∧ n < ((50 : Nat) : Int) := ⟨h.2.2.2.1, by have := h.2.2.2.2; omega⟩
  unfold F_X12_plainGrows
  rw [fm_ran h.1, td_bs] <;> rfl
theorem mk_slateGrows_7 {n c x : Int} {E : td_D} (h : bm_o n 7 c E) (hc : c ≤ 3640) : F_X12_slateGrows n x E = some (tv_w ((tv_xor x n) * 3), mL_o [40, 11] E) := by
  have hk := h.2.2.1
  have n50 : 0 ≤ n ∧ n < ((50 : Nat) : Int) := ⟨h.2.2.2.1, by have := h.2.2.2.2; omega⟩
  unfold F_X12_slateGrows
  rw [fm_ran h.1, td_bs]
  have h1 := bm_s (b := 40) (by omega) h
  rw [mk_plainGrows_7 h1 (by omega), td_bs] <;> rfl
theorem mk_growing_7 {n c x : Int} {E : td_D} (h : bm_o n 7 c E) (hc : c ≤ 3580) : F_X12_growing n x E = some ((tv_xor x n), mL_o [11] E) := by
  have hk := h.2.2.1
  have n50 : 0 ≤ n ∧ n < ((50 : Nat) : Int) := ⟨h.2.2.2.1, by have := h.2.2.2.2; omega⟩
  unfold F_X12_growing
  rw [if_pos n50, hk, if_neg (show ¬ (7 : Int) = 5 by decide), if_neg (show ¬ (7 : Int) = 3 by decide)]
  rw [mk_plainGrows_7 h (by omega), td_bs] <;> rfl
theorem mk_stinging_7 {n c x : Int} {E : td_D} (h : bm_o n 7 c E) (hc : c ≤ 3520) : F_X12_stinging n x E = some (tv_w ((tv_w ((tv_w ((tv_w ((tv_w (x + n)) * 2)) - 1)) * 2)) + (tv_xor 2 n)), mL_o [80, 10, 81, 70, 1, 11] E) := by
  have hk := h.2.2.1
  have n50 : 0 ≤ n ∧ n < ((50 : Nat) : Int) := ⟨h.2.2.2.1, by have := h.2.2.2.2; omega⟩
  unfold F_X12_stinging
  rw [if_pos n50, hk, fm_isU, td_bs, show iu_o 7 3 = 0 from rfl, if_pos (show (0 : Int) = 0 from rfl), hk, if_pos (show (7 : Int) = 7 from rfl)]
  rw [fm_ran h.1, td_bs]
  have h1 := bm_s (b := 80) (by omega) h
  rw [mk_plainStings_7 h1 (by omega), td_bs]
  have h2 := bm_L [10, 81, 70, 1] _ _ (by simp only [List.length_cons, List.length_nil]; omega) h1
  simp only [List.length_cons, List.length_nil] at h2
  rw [mk_growing_7 h2 (by omega), td_bs] <;> rfl
theorem mk_plainTells_7 {n c x : Int} {E : td_D} (h : bm_o n 7 c E) (hc : c ≤ 3460) : F_X12_plainTells n x E = some (tv_w ((tv_w ((tv_w ((tv_w ((tv_w ((tv_w (x + n)) * 2)) - 1)) * 2)) + (tv_xor 2 n))) - (tv_xor 1 n)), mL_o [2, 80, 10, 81, 70, 1, 11, 11] E) := by
  have hk := h.2.2.1
  have n50 : 0 ≤ n ∧ n < ((50 : Nat) : Int) := ⟨h.2.2.2.1, by have := h.2.2.2.2; omega⟩
  unfold F_X12_plainTells
  rw [fm_ran h.1, td_bs]
  have h1 := bm_s (b := 2) (by omega) h
  rw [mk_stinging_7 h1 (by omega), td_bs]
  have h2 := bm_L [80, 10, 81, 70, 1, 11] _ _ (by simp only [List.length_cons, List.length_nil]; omega) h1
  simp only [List.length_cons, List.length_nil] at h2
  rw [mk_growing_7 h2 (by omega), td_bs] <;> rfl
theorem mk_telling_7 {n c x : Int} {E : td_D} (h : bm_o n 7 c E) (hc : c ≤ 3400) : F_X12_telling n x E = some ((tv_w ((tv_w ((tv_w ((tv_w ((tv_w ((tv_w (x + n)) * 2)) - 1)) * 2)) + (tv_xor 2 n))) - (tv_xor 1 n))), mL_o [2, 80, 10, 81, 70, 1, 11, 11] E) := by
  have hk := h.2.2.1
  have n50 : 0 ≤ n ∧ n < ((50 : Nat) : Int) := ⟨h.2.2.2.1, by have := h.2.2.2.2; omega⟩
  unfold F_X12_telling
  rw [if_pos n50, hk, if_neg (show ¬ (7 : Int) = 4 by decide), if_neg (show ¬ (7 : Int) = 5 by decide)]
  rw [mk_plainTells_7 h (by omega), td_bs] <;> rfl
