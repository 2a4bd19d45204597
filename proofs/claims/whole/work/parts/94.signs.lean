/-- law read: what a byte of the tape is to both -/
def cr_o (c c' : Int) : Prop := (c' = c ∧ -1 ≤ c ∧ c ≤ 127) ∨ (128 ≤ c ∧ c' < 0)
def nn_o (c : Int) : Int := if c = 97 then 0 else if c = 100 then 5 else if c = 104 then 4 else if c = 110 then 1 else if c = 111 then 3 else if c = 115 then 2 else -1
def rk_o (c : Int) : Int := if c = 37 ∨ c = 42 ∨ c = 47 then 4 else if c = 38 then 1 else if c = 43 ∨ c = 45 then 3 else if c = 60 ∨ c = 61 ∨ c = 62 then 2 else if c = 124 then 0 else -1
theorem nn_n {c : Int} (h : c ≠ 97) (h2 : c ≠ 100) (h3 : c ≠ 104) (h4 : c ≠ 110) (h5 : c ≠ 111) (h6 : c ≠ 115) : nn_o c = -1 := by
  unfold nn_o
  simp (disch := omega) only [if_neg]
theorem nn_c {c : Int} : (nn_o c = -1 ∧ c ≠ 97 ∧ c ≠ 100 ∧ c ≠ 104 ∧ c ≠ 110 ∧ c ≠ 111 ∧ c ≠ 115) ∨ (0 ≤ nn_o c ∧ nn_o c ≤ 5 ∧ 97 ≤ c ∧ c ≤ 115) := by
  by_cases h1 : c = 97
  · subst h1; exact Or.inr (by decide)
  by_cases h2 : c = 100
  · subst h2; exact Or.inr (by decide)
  by_cases h3 : c = 104
  · subst h3; exact Or.inr (by decide)
  by_cases h4 : c = 110
  · subst h4; exact Or.inr (by decide)
  by_cases h5 : c = 111
  · subst h5; exact Or.inr (by decide)
  by_cases h6 : c = 115
  · subst h6; exact Or.inr (by decide)
  exact Or.inl ⟨nn_n h1 h2 h3 h4 h5 h6, h1, h2, h3, h4, h5, h6⟩
theorem nn_s {c c' : Int} (h : cr_o c c') : nn_o c' = nn_o c := by
  rcases h with ⟨h, -, -⟩ | ⟨h, h2⟩
  · rw [h]
  · rw [nn_n (by omega) (by omega) (by omega) (by omega) (by omega) (by omega), nn_n (by omega) (by omega) (by omega) (by omega) (by omega) (by omega)]
theorem rk_c (c : Int) : (rk_o c = 4 ∧ (c = 37 ∨ c = 42 ∨ c = 47)) ∨ (rk_o c = 1 ∧ c = 38) ∨ (rk_o c = 3 ∧ (c = 43 ∨ c = 45)) ∨ (rk_o c = 2 ∧ (c = 60 ∨ c = 61 ∨ c = 62)) ∨ (rk_o c = 0 ∧ c = 124) ∨ (rk_o c = -1 ∧ c ≠ 37 ∧ c ≠ 42 ∧ c ≠ 47 ∧ c ≠ 38 ∧ c ≠ 43 ∧ c ≠ 45 ∧ c ≠ 60 ∧ c ≠ 61 ∧ c ≠ 62 ∧ c ≠ 124) := by
  unfold rk_o
  split
  · exact Or.inl ⟨rfl, by assumption⟩
  split
  · exact Or.inr (Or.inl ⟨rfl, by assumption⟩)
  split
  · exact Or.inr (Or.inr (Or.inl ⟨rfl, by assumption⟩))
  split
  · exact Or.inr (Or.inr (Or.inr (Or.inl ⟨rfl, by assumption⟩)))
  split
  · exact Or.inr (Or.inr (Or.inr (Or.inr (Or.inl ⟨rfl, by assumption⟩))))
  · exact Or.inr (Or.inr (Or.inr (Or.inr (Or.inr ⟨rfl, by omega⟩))))
theorem rk_s {c c' : Int} (h : cr_o c c') : rk_o c' = rk_o c := by
  rcases h with ⟨h, -, -⟩ | ⟨h, h2⟩
  · rw [h]
  · have a := rk_c c
    have b := rk_c c'
    omega
theorem fe_nameOf {c : Int} {D : td_D} : F_X9_nameOf c D = some (nn_o c, D) := by
  by_cases h : 97 ≤ c ∧ c ≤ 115
  · have z : c = 97 ∨ c = 98 ∨ c = 99 ∨ c = 100 ∨ c = 101 ∨ c = 102 ∨ c = 103 ∨ c = 104 ∨ c = 105 ∨ c = 106 ∨ c = 107 ∨ c = 108 ∨ c = 109 ∨ c = 110 ∨ c = 111 ∨ c = 112 ∨ c = 113 ∨ c = 114 ∨ c = 115 := by omega
    rcases z with rfl | rfl | rfl | rfl | rfl | rfl | rfl | rfl | rfl | rfl | rfl | rfl | rfl | rfl | rfl | rfl | rfl | rfl | rfl <;> rfl
  · rw [nn_n (by omega) (by omega) (by omega) (by omega) (by omega) (by omega)]
    unfold F_X9_nameOf F_X9_nameOf_104
    simp (disch := omega) only [if_neg]
theorem fm_nameOf {c : Int} {D : td_D} : F_X12_nameOf c D = some (nn_o c, D) := by
  by_cases h : 97 ≤ c ∧ c ≤ 115
  · have z : c = 97 ∨ c = 98 ∨ c = 99 ∨ c = 100 ∨ c = 101 ∨ c = 102 ∨ c = 103 ∨ c = 104 ∨ c = 105 ∨ c = 106 ∨ c = 107 ∨ c = 108 ∨ c = 109 ∨ c = 110 ∨ c = 111 ∨ c = 112 ∨ c = 113 ∨ c = 114 ∨ c = 115 := by omega
    rcases z with rfl | rfl | rfl | rfl | rfl | rfl | rfl | rfl | rfl | rfl | rfl | rfl | rfl | rfl | rfl | rfl | rfl | rfl | rfl <;> rfl
  · rw [nn_n (by omega) (by omega) (by omega) (by omega) (by omega) (by omega)]
    unfold F_X12_nameOf F_X12_nameOf_104
    simp (disch := omega) only [if_neg]
theorem fe_rankOf {c : Int} {D : td_D} : F_X9_rankOf c D = some (rk_o c, D) := by
  have h := rk_c c
  rcases h with ⟨h, rfl | rfl | rfl⟩ | ⟨h, rfl⟩ | ⟨h, rfl | rfl⟩ | ⟨h, rfl | rfl | rfl⟩ | ⟨h, rfl⟩ | ⟨h, h2⟩
  all_goals try rfl
  rw [h]
  unfold F_X9_rankOf
  simp (disch := omega) only [if_neg]
theorem fe_isDigit {c : Int} {D : td_D} : F_X9_isDigit c D = some (tv_tf (48 ≤ c ∧ c ≤ 57), D) := by
  unfold F_X9_isDigit
  by_cases h : c < 48
  · rw [if_pos h, tf_f (by omega)]
  · rw [if_neg h]
    by_cases h2 : 57 < c
    · rw [if_pos h2, tf_f (by omega)]
    · rw [if_neg h2, tf_t (by omega)]
theorem fm_in57 {c : Int} {D : td_D} : F_X12_in c 48 57 D = some (tv_tf (48 ≤ c ∧ c ≤ 57), D) := by
  unfold F_X12_in
  by_cases h : c < 48
  · rw [if_pos h, tf_f (by omega)]
  · rw [if_neg h]
    by_cases h2 : 57 < c
    · rw [if_pos h2, tf_f (by omega)]
    · rw [if_neg h2, tf_t (by omega)]
theorem tb_j {a : Int} (h : -128 ≤ a) (h2 : a ≤ 127) : tv_i2b a = a := by
  unfold tv_i2b
  omega
/-- a step laid -/
def ad_o (q : Nat) (c v : Int) (D : td_D) : td_D := if 128 ≤ D q 3 then D else td_upd (td_upd (td_upd D (q + 1) (D q 3).toNat c) (q + 2) (D q 3).toNat v) q 3 (D q 3 + 1)
def am_o (c v : Int) (E : td_D) : td_D := td_upd (td_upd (td_upd E 14 (130 + (E 1 22).toNat) c) 15 (130 + (E 1 22).toNat) v) 1 22 (E 1 22 + 1)
theorem fe_lst {q : Nat} {c v : Int} {D : td_D} (hq : q = 12 ∨ q = 16) (h : 0 ≤ D q 3) : F_X1_add q c v D = some (0, ad_o q c v D) := by
  obtain ⟨t0, t1, t2⟩ := tr_q hq
  unfold F_X1_add ad_o
  by_cases z : 128 ≤ D q 3
  · rw [if_pos z, if_pos z]
  · rw [if_neg z, if_neg z, t0, t1]
    have e : ∀ (j : Nat) (x : Int), td_upd D (q + 1) j x q = D q := fun j x => tu_row (by omega)
    have e2 : ∀ (D : td_D) (j : Nat) (x : Int), td_upd D (q + 2) j x q = D q := fun D j x => tu_row (by omega)
    have p : 0 ≤ D q 3 ∧ D q 3 < ((128 : Nat) : Int) := by omega
    simp only [tb_l, e, e2, if_pos p]
    rw [tw_s (a := D q 3 + 1) (by omega) (by omega)]
theorem fm_lst {c v : Int} {E : td_D} (h : 0 ≤ E 1 22) (h2 : E 1 22 < 130) (h3 : 0 ≤ c) (h4 : c ≤ 127) : F_X12_addStep c v E = some (0, am_o c v E) := by
  unfold F_X12_addStep am_o
  have e : ∀ (D : td_D) (j : Nat) (x : Int), td_upd D 14 j x 1 = D 1 := fun D j x => tu_row (by decide)
  have e2 : ∀ (D : td_D) (j : Nat) (x : Int), td_upd D 15 j x 1 = D 1 := fun D j x => tu_row (by decide)
  have p : 0 ≤ 130 + E 1 22 ∧ 130 + E 1 22 < ((260 : Nat) : Int) := by omega
  simp only [tb_l, e, e2, tw_s (a := 130 + E 1 22) (by omega) (by omega), if_pos p, tb_j (a := c) (by omega) (by omega), tw_s (a := E 1 22 + 1) (by omega) (by omega)]
  rw [show (130 + E 1 22).toNat = 130 + (E 1 22).toNat by omega]
