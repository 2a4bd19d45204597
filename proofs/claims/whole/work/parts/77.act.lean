/-- a body runs: the component's trace, the model's -/
def rn_o (b : Int) (D : td_D) : td_D := if 24 ≤ D 43 3 then td_upd D 43 3 (tv_w (D 43 3 + 1)) else td_upd (td_upd D 45 (D 43 3).toNat b) 43 3 (tv_w (D 43 3 + 1))
def rm_o (b : Int) (E : td_D) : td_D := if 24 ≤ E 1 52 then td_upd E 1 52 (tv_w (E 1 52 + 1)) else td_upd (td_upd E 36 (E 1 52).toNat b) 1 52 (tv_w (E 1 52 + 1))
def rL_o (l : List Int) (D : td_D) : td_D := l.foldl (fun D b => rn_o b D) D
def mL_o (l : List Int) (E : td_D) : td_D := l.foldl (fun E b => rm_o b E) E
def bc_o (n k c : Int) (D : td_D) : Prop := 0 ≤ D 43 3 ∧ D 43 3 ≤ c ∧ D 43 4 = n ∧ D 44 n.toNat = k ∧ 0 ≤ n ∧ n < 50
def bm_o (n k c : Int) (E : td_D) : Prop := 0 ≤ E 1 52 ∧ E 1 52 ≤ c ∧ E 35 n.toNat = k ∧ 0 ≤ n ∧ n < 50
theorem bc_s {n k c b : Int} {D : td_D} (hc : c ≤ 5000) (h : bc_o n k c D) : bc_o n k (c + 1) (rn_o b D) := by
  obtain ⟨h1, h2, h3, h4, h5, h6⟩ := h
  have e : rn_o b D 43 3 = D 43 3 + 1 ∧ rn_o b D 43 4 = D 43 4 ∧ rn_o b D 44 = D 44 := by
    unfold rn_o
    split
    · simp (disch := decide) only [tu_row, tu_at, tu_same, tu_ne]
      exact ⟨tw_s (by omega) (by omega), trivial, trivial⟩
    · simp (disch := decide) only [tu_row, tu_at, tu_same, tu_ne]
      exact ⟨tw_s (by omega) (by omega), trivial, trivial⟩
  unfold bc_o
  rw [e.1, e.2.1, e.2.2]
  exact ⟨by omega, by omega, h3, h4, h5, h6⟩
theorem bm_s {n k c b : Int} {E : td_D} (hc : c ≤ 5000) (h : bm_o n k c E) : bm_o n k (c + 1) (rm_o b E) := by
  obtain ⟨h1, h2, h3, h4, h5⟩ := h
  have e : rm_o b E 1 52 = E 1 52 + 1 ∧ rm_o b E 35 = E 35 := by
    unfold rm_o
    split
    · simp (disch := decide) only [tu_row, tu_at, tu_same, tu_ne]
      exact ⟨tw_s (by omega) (by omega), trivial⟩
    · simp (disch := decide) only [tu_row, tu_at, tu_same, tu_ne]
      exact ⟨tw_s (by omega) (by omega), trivial⟩
  unfold bm_o
  rw [e.1, e.2]
  exact ⟨by omega, by omega, h3, h4, h5⟩
theorem bc_L {n k : Int} : ∀ (l : List Int) (c : Int) (D : td_D), c + l.length ≤ 5000 → bc_o n k c D → bc_o n k (c + l.length) (rL_o l D) := by
  intro l
  induction l with
  | nil =>
    intro c D _ h
    show bc_o n k (c + ((0 : Nat) : Int)) D
    rw [show c + ((0 : Nat) : Int) = c by omega]
    exact h
  | cons b l ih =>
    intro c D hc h
    simp only [List.length_cons] at hc ⊢
    have z := ih (c + 1) (rn_o b D) (by omega) (bc_s (by omega) h)
    rw [show c + ((l.length + 1 : Nat) : Int) = c + 1 + (l.length : Int) by omega]
    exact z
theorem bm_L {n k : Int} : ∀ (l : List Int) (c : Int) (E : td_D), c + l.length ≤ 5000 → bm_o n k c E → bm_o n k (c + l.length) (mL_o l E) := by
  intro l
  induction l with
  | nil =>
    intro c D _ h
    show bm_o n k (c + ((0 : Nat) : Int)) D
    rw [show c + ((0 : Nat) : Int) = c by omega]
    exact h
  | cons b l ih =>
    intro c D hc h
    simp only [List.length_cons] at hc ⊢
    have z := ih (c + 1) (rm_o b D) (by omega) (bm_s (by omega) h)
    rw [show c + ((l.length + 1 : Nat) : Int) = c + 1 + (l.length : Int) by omega]
    exact z
theorem lw_rn {b : Int} {D E : td_D} (hR : lw_R D E) (h : D 43 3 ≤ 9000) : lw_R (rn_o b D) (rm_o b E) := by
  obtain ⟨hl, hs, ht, hw, hc, hg, hi, ⟨b1, b2, ⟨b3, b3a, b3b⟩, b4⟩, hh⟩ := id hR
  unfold rn_o rm_o
  rw [b3]
  by_cases c : 24 ≤ D 43 3
  · rw [if_pos c, if_pos c]
    unfold lw_R
    simp (disch := decide) only [tu_row, tu_at, tu_same, tu_ne]
    rw [tw_s (by omega) (by omega)]
    exact ⟨hl, hs, ht, hw, hc, hg, hi, ⟨b1, b2, ⟨rfl, by omega, by omega⟩, fun i i1 i2 => b4 i i1 (by omega)⟩, hh⟩
  · rw [if_neg c, if_neg c]
    unfold lw_R
    simp (disch := decide) only [tu_row, tu_at, tu_same, tu_ne]
    rw [tw_s (by omega) (by omega)]
    refine ⟨hl, hs, ht, hw, hc, hg, hi, ⟨b1, b2, ⟨rfl, by omega, by omega⟩, fun i i1 i2 => ?_⟩, hh⟩
    unfold tv_up
    split
    · rfl
    · exact b4 i i1 (by omega)
theorem lw_rL {n k : Int} : ∀ (l : List Int) (c : Int) (D E : td_D), c + l.length ≤ 5000 → bc_o n k c D → lw_R D E → lw_R (rL_o l D) (mL_o l E) := by
  intro l
  induction l with
  | nil => intro c D E _ _ h; exact h
  | cons b l ih =>
    intro c D E hc h hR
    simp only [List.length_cons] at hc
    exact ih (c + 1) (rn_o b D) (rm_o b E) (by omega) (bc_s (by omega) h) (lw_rn hR (by have := h.2.1; omega))
theorem tb_i (x : Option (Int × td_D)) : (td_b x fun r D => some (r, D)) = x := by
  cases x with
  | none => rfl
  | some q => rfl
theorem sw_0 {m : Nat} {a b c e : Int} {D : td_D} : F_sw (m + 1) 0 a b c e D = B_X8_own (F_sw m) a b c D := by
  unfold F_sw
  rw [if_pos rfl]
theorem sw_1 {m : Nat} {a b c e : Int} {D : td_D} : F_sw (m + 1) 1 a b c e D = B_X8_above (F_sw m) a b c e D := by
  unfold F_sw
  rw [if_neg (by decide), if_pos rfl]
theorem sw_2 {m : Nat} {a b c e : Int} {D : td_D} : F_sw (m + 1) 2 a b c e D = B_X8_run (F_sw m) a b c e D := by
  unfold F_sw
  rw [if_neg (by decide), if_neg (by decide), if_pos rfl]
theorem sw_3 {m : Nat} {a b c e : Int} {D : td_D} : F_sw (m + 1) 3 a b c e D = B_X8_answer (F_sw m) a b c D := by
  unfold F_sw
  rw [if_neg (by decide), if_neg (by decide), if_neg (by decide)]
theorem fe_55 {m : Nat} {x d b : Int} {D : td_D} (h1 : 0 ≤ D 43 3) (hd : d ≤ 40) (hb : b ≠ 0) : F_X8_run_55 (F_sw (m + 1)) x d b D = B_X8_answer (F_sw m) b x d (rn_o b D) := by
  unfold F_X8_run_55 rn_o
  rw [if_neg hb, if_pos hd]
  have e : ∀ D' : td_D, F_sw (m + 1) 3 b x d 0 D' = B_X8_answer (F_sw m) b x d D' := fun _ => sw_3
  by_cases c : 24 ≤ D 43 3
  · rw [if_pos c, if_pos c, td_ls, tb_i, e]
  · rw [if_neg c, if_neg c, if_pos (by omega), td_ls, td_ls, tb_i, e]
    congr 2
theorem fe_ow {m : Nat} {n k c act x d b : Int} {D : td_D} (h : bc_o n k c D) (hd : 0 ≤ d) (hd2 : d ≤ 39) (hb : b ≠ 0) (hn : ∀ (rec : Nat → Int → Int → Int → Int → td_D → Option (Int × td_D)) (x d : Int) (D : td_D), F_X8_run_9 rec tf_N act x d 0 k 0 D = F_X8_run_55 rec x d b D) : F_sw (m + 3) 0 act x d 0 D = B_X8_answer (F_sw m) b x (d + 1) (rn_o b D) := by
  obtain ⟨h1, h2, h3, h4, h5, h6⟩ := h
  rw [show m + 3 = m + 2 + 1 from rfl, sw_0]
  unfold B_X8_own
  rw [h3, if_pos (by omega), h4, tb_i, show m + 2 = m + 1 + 1 from rfl, sw_2]
  unfold B_X8_run
  rw [hn, tw_s (a := d + 1) (by omega) (by omega), fe_55 h1 (by omega) hb]
theorem fe_ab {m : Nat} {n k c kd act x d b : Int} {D : td_D} (h : bc_o n k c D) (k1 : 0 ≤ kd) (k2 : kd < 8) (hd : 0 ≤ d) (hd2 : d ≤ 39) (hb : b ≠ 0) (hn : ∀ (rec : Nat → Int → Int → Int → Int → td_D → Option (Int × td_D)) (x d : Int) (D : td_D), F_X8_run_9 rec tf_N act x d 0 (tv_kab kd.toNat) 0 D = F_X8_run_55 rec x d b D) : F_sw (m + 3) 1 kd act x d D = B_X8_answer (F_sw m) b x (d + 1) (rn_o b D) := by
  obtain ⟨h1, h2, h3, h4, h5, h6⟩ := h
  rw [show m + 3 = m + 2 + 1 from rfl, sw_1]
  unfold B_X8_above
  rw [if_pos (by omega), tb_i, show m + 2 = m + 1 + 1 from rfl, sw_2]
  unfold B_X8_run
  rw [hn, tw_s (a := d + 1) (by omega) (by omega), fe_55 h1 (by omega) hb]
theorem rn_0_0 (rec : Nat → Int → Int → Int → Int → td_D → Option (Int × td_D)) (x d : Int) (D : td_D) : F_X8_run_9 rec tf_N 0 x d 0 0 0 D = F_X8_run_55 rec x d 1 D := rfl
theorem rn_0_1 (rec : Nat → Int → Int → Int → Int → td_D → Option (Int × td_D)) (x d : Int) (D : td_D) : F_X8_run_9 rec tf_N 1 x d 0 0 0 D = F_X8_run_55 rec x d 10 D := rfl
theorem rn_0_2 (rec : Nat → Int → Int → Int → Int → td_D → Option (Int × td_D)) (x d : Int) (D : td_D) : F_X8_run_9 rec tf_N 2 x d 0 0 0 D = F_X8_run_55 rec x d 11 D := rfl
theorem rn_0_3 (rec : Nat → Int → Int → Int → Int → td_D → Option (Int × td_D)) (x d : Int) (D : td_D) : F_X8_run_9 rec tf_N 3 x d 0 0 0 D = F_X8_run_55 rec x d 2 D := rfl
theorem rn_1_0 (rec : Nat → Int → Int → Int → Int → td_D → Option (Int × td_D)) (x d : Int) (D : td_D) : F_X8_run_9 rec tf_N 0 x d 0 1 0 D = F_X8_run_55 rec x d 20 D := rfl
theorem rn_1_1 (rec : Nat → Int → Int → Int → Int → td_D → Option (Int × td_D)) (x d : Int) (D : td_D) : F_X8_run_9 rec tf_N 1 x d 0 1 0 D = F_X8_run_55 rec x d 10 D := rfl
theorem rn_1_2 (rec : Nat → Int → Int → Int → Int → td_D → Option (Int × td_D)) (x d : Int) (D : td_D) : F_X8_run_9 rec tf_N 2 x d 0 1 0 D = F_X8_run_55 rec x d 11 D := rfl
theorem rn_1_3 (rec : Nat → Int → Int → Int → Int → td_D → Option (Int × td_D)) (x d : Int) (D : td_D) : F_X8_run_9 rec tf_N 3 x d 0 1 0 D = F_X8_run_55 rec x d 2 D := rfl
theorem rn_2_0 (rec : Nat → Int → Int → Int → Int → td_D → Option (Int × td_D)) (x d : Int) (D : td_D) : F_X8_run_9 rec tf_N 0 x d 0 2 0 D = F_X8_run_55 rec x d 1 D := rfl
theorem rn_2_1 (rec : Nat → Int → Int → Int → Int → td_D → Option (Int × td_D)) (x d : Int) (D : td_D) : F_X8_run_9 rec tf_N 1 x d 0 2 0 D = F_X8_run_55 rec x d 30 D := rfl
theorem rn_2_2 (rec : Nat → Int → Int → Int → Int → td_D → Option (Int × td_D)) (x d : Int) (D : td_D) : F_X8_run_9 rec tf_N 2 x d 0 2 0 D = F_X8_run_55 rec x d 11 D := rfl
theorem rn_2_3 (rec : Nat → Int → Int → Int → Int → td_D → Option (Int × td_D)) (x d : Int) (D : td_D) : F_X8_run_9 rec tf_N 3 x d 0 2 0 D = F_X8_run_55 rec x d 2 D := rfl
theorem rn_3_0 (rec : Nat → Int → Int → Int → Int → td_D → Option (Int × td_D)) (x d : Int) (D : td_D) : F_X8_run_9 rec tf_N 0 x d 0 3 0 D = F_X8_run_55 rec x d 1 D := rfl
theorem rn_3_1 (rec : Nat → Int → Int → Int → Int → td_D → Option (Int × td_D)) (x d : Int) (D : td_D) : F_X8_run_9 rec tf_N 1 x d 0 3 0 D = F_X8_run_55 rec x d 41 D := rfl
theorem rn_3_2 (rec : Nat → Int → Int → Int → Int → td_D → Option (Int × td_D)) (x d : Int) (D : td_D) : F_X8_run_9 rec tf_N 2 x d 0 3 0 D = F_X8_run_55 rec x d 40 D := rfl
theorem rn_3_3 (rec : Nat → Int → Int → Int → Int → td_D → Option (Int × td_D)) (x d : Int) (D : td_D) : F_X8_run_9 rec tf_N 3 x d 0 3 0 D = F_X8_run_55 rec x d 2 D := rfl
theorem rn_4_0 (rec : Nat → Int → Int → Int → Int → td_D → Option (Int × td_D)) (x d : Int) (D : td_D) : F_X8_run_9 rec tf_N 0 x d 0 4 0 D = F_X8_run_55 rec x d 20 D := rfl
theorem rn_4_1 (rec : Nat → Int → Int → Int → Int → td_D → Option (Int × td_D)) (x d : Int) (D : td_D) : F_X8_run_9 rec tf_N 1 x d 0 4 0 D = F_X8_run_55 rec x d 10 D := rfl
theorem rn_4_2 (rec : Nat → Int → Int → Int → Int → td_D → Option (Int × td_D)) (x d : Int) (D : td_D) : F_X8_run_9 rec tf_N 2 x d 0 4 0 D = F_X8_run_55 rec x d 11 D := rfl
theorem rn_4_3 (rec : Nat → Int → Int → Int → Int → td_D → Option (Int × td_D)) (x d : Int) (D : td_D) : F_X8_run_9 rec tf_N 3 x d 0 4 0 D = F_X8_run_55 rec x d 50 D := rfl
theorem rn_5_0 (rec : Nat → Int → Int → Int → Int → td_D → Option (Int × td_D)) (x d : Int) (D : td_D) : F_X8_run_9 rec tf_N 0 x d 0 5 0 D = F_X8_run_55 rec x d 1 D := rfl
theorem rn_5_1 (rec : Nat → Int → Int → Int → Int → td_D → Option (Int × td_D)) (x d : Int) (D : td_D) : F_X8_run_9 rec tf_N 1 x d 0 5 0 D = F_X8_run_55 rec x d 41 D := rfl
theorem rn_5_2 (rec : Nat → Int → Int → Int → Int → td_D → Option (Int × td_D)) (x d : Int) (D : td_D) : F_X8_run_9 rec tf_N 2 x d 0 5 0 D = F_X8_run_55 rec x d 60 D := rfl
theorem rn_5_3 (rec : Nat → Int → Int → Int → Int → td_D → Option (Int × td_D)) (x d : Int) (D : td_D) : F_X8_run_9 rec tf_N 3 x d 0 5 0 D = F_X8_run_55 rec x d 61 D := rfl
theorem rn_6_0 (rec : Nat → Int → Int → Int → Int → td_D → Option (Int × td_D)) (x d : Int) (D : td_D) : F_X8_run_9 rec tf_N 0 x d 0 6 0 D = F_X8_run_55 rec x d 70 D := rfl
theorem rn_6_1 (rec : Nat → Int → Int → Int → Int → td_D → Option (Int × td_D)) (x d : Int) (D : td_D) : F_X8_run_9 rec tf_N 1 x d 0 6 0 D = F_X8_run_55 rec x d 10 D := rfl
theorem rn_6_2 (rec : Nat → Int → Int → Int → Int → td_D → Option (Int × td_D)) (x d : Int) (D : td_D) : F_X8_run_9 rec tf_N 2 x d 0 6 0 D = F_X8_run_55 rec x d 11 D := rfl
theorem rn_6_3 (rec : Nat → Int → Int → Int → Int → td_D → Option (Int × td_D)) (x d : Int) (D : td_D) : F_X8_run_9 rec tf_N 3 x d 0 6 0 D = F_X8_run_55 rec x d 2 D := rfl
theorem rn_7_0 (rec : Nat → Int → Int → Int → Int → td_D → Option (Int × td_D)) (x d : Int) (D : td_D) : F_X8_run_9 rec tf_N 0 x d 0 7 0 D = F_X8_run_55 rec x d 81 D := rfl
theorem rn_7_1 (rec : Nat → Int → Int → Int → Int → td_D → Option (Int × td_D)) (x d : Int) (D : td_D) : F_X8_run_9 rec tf_N 1 x d 0 7 0 D = F_X8_run_55 rec x d 80 D := rfl
theorem rn_7_2 (rec : Nat → Int → Int → Int → Int → td_D → Option (Int × td_D)) (x d : Int) (D : td_D) : F_X8_run_9 rec tf_N 2 x d 0 7 0 D = F_X8_run_55 rec x d 11 D := rfl
theorem rn_7_3 (rec : Nat → Int → Int → Int → Int → td_D → Option (Int × td_D)) (x d : Int) (D : td_D) : F_X8_run_9 rec tf_N 3 x d 0 7 0 D = F_X8_run_55 rec x d 2 D := rfl
theorem ba_1 (rec : Nat → Int → Int → Int → Int → td_D → Option (Int × td_D)) (x d : Int) (D : td_D) : B_X8_answer rec 1 x d D = some (tv_w (x + (D 43 4)), D) := rfl
theorem ba_2 (rec : Nat → Int → Int → Int → Int → td_D → Option (Int × td_D)) (x d : Int) (D : td_D) : B_X8_answer rec 2 x d D = td_b (rec 0 1 x d 0 D) fun r0 D0 => td_b (rec 0 2 1 d 0 D0) fun r1 D1 => some (tv_w (r0 - r1), D1) := rfl
theorem ba_10 (rec : Nat → Int → Int → Int → Int → td_D → Option (Int × td_D)) (x d : Int) (D : td_D) : B_X8_answer rec 10 x d D = td_b (rec 0 0 x d 0 D) fun r0 D0 => some (tv_w (r0 * 2), D0) := rfl
theorem ba_11 (rec : Nat → Int → Int → Int → Int → td_D → Option (Int × td_D)) (x d : Int) (D : td_D) : B_X8_answer rec 11 x d D = some (tv_xor x (D 43 4), D) := rfl
theorem ba_20 (rec : Nat → Int → Int → Int → Int → td_D → Option (Int × td_D)) (x d : Int) (D : td_D) : B_X8_answer rec 20 x d D = td_b (rec 1 1 0 x d D) fun r0 D0 => some (tv_w (r0 + 3), D0) := rfl
theorem ba_30 (rec : Nat → Int → Int → Int → Int → td_D → Option (Int × td_D)) (x d : Int) (D : td_D) : B_X8_answer rec 30 x d D = td_b (rec 1 2 1 x d D) fun r0 D0 => some (tv_w (-r0), D0) := rfl
theorem ba_40 (rec : Nat → Int → Int → Int → Int → td_D → Option (Int × td_D)) (x d : Int) (D : td_D) : B_X8_answer rec 40 x d D = td_b (rec 1 3 2 x d D) fun r0 D0 => some (tv_w (r0 * 3), D0) := rfl
theorem ba_41 (rec : Nat → Int → Int → Int → Int → td_D → Option (Int × td_D)) (x d : Int) (D : td_D) : B_X8_answer rec 41 x d D = td_b (rec 1 3 1 (tv_w (x + 1)) d D) fun r0 D0 => some (r0, D0) := rfl
theorem ba_50 (rec : Nat → Int → Int → Int → Int → td_D → Option (Int × td_D)) (x d : Int) (D : td_D) : B_X8_answer rec 50 x d D = td_b (rec 1 4 3 x d D) fun r0 D0 => some (tv_xor r0 5, D0) := rfl
theorem ba_60 (rec : Nat → Int → Int → Int → Int → td_D → Option (Int × td_D)) (x d : Int) (D : td_D) : B_X8_answer rec 60 x d D = td_b (rec 1 5 2 x d D) fun r0 D0 => td_b (rec 0 0 2 d 0 D0) fun r1 D1 => some (tv_w (r0 - r1), D1) := rfl
theorem ba_61 (rec : Nat → Int → Int → Int → Int → td_D → Option (Int × td_D)) (x d : Int) (D : td_D) : B_X8_answer rec 61 x d D = td_b (rec 1 5 3 x d D) fun r0 D0 => some (tv_w (r0 + 1), D0) := rfl
theorem ba_70 (rec : Nat → Int → Int → Int → Int → td_D → Option (Int × td_D)) (x d : Int) (D : td_D) : B_X8_answer rec 70 x d D = td_b (rec 1 6 0 x d D) fun r0 D0 => some (tv_w (r0 * 2), D0) := rfl
theorem ba_80 (rec : Nat → Int → Int → Int → Int → td_D → Option (Int × td_D)) (x d : Int) (D : td_D) : B_X8_answer rec 80 x d D = td_b (rec 1 7 1 x d D) fun r0 D0 => td_b (rec 0 2 2 d 0 D0) fun r1 D1 => some (tv_w (r0 + r1), D1) := rfl
theorem ba_81 (rec : Nat → Int → Int → Int → Int → td_D → Option (Int × td_D)) (x d : Int) (D : td_D) : B_X8_answer rec 81 x d D = td_b (rec 1 7 0 x d D) fun r0 D0 => some (tv_w (r0 - 1), D0) := rfl
theorem an_0_1 {m : Nat} {n c x d : Int} {D : td_D} (h : bc_o n 0 c D) (hc : c ≤ 4000) (hd : 0 ≤ d) (hd2 : d ≤ 39) : B_X8_answer (F_sw (m + 0)) 1 x d D = some (tv_w (x + n), rL_o [] D) := by
  rw [ba_1, h.2.2.1]
  rfl
theorem an_0_10 {m : Nat} {n c x d : Int} {D : td_D} (h : bc_o n 0 c D) (hc : c ≤ 3880) (hd : 0 ≤ d) (hd2 : d ≤ 38) : B_X8_answer (F_sw (m + 3)) 10 x d D = some (tv_w ((tv_w (x + n)) * 2), rL_o [1] D) := by
  rw [ba_10]
  rw [fe_ow (m := m + 0) h hd (by omega) (by decide) rn_0_0, an_0_1 (m := m + 0) (bc_s (by omega) h) (by omega) (by omega) (by omega), td_bs]
  have h1 := bc_L [] _ _ (by simp only [List.length_cons, List.length_nil]; omega) (bc_s (b := 1) (by omega) h)
  simp only [List.length_cons, List.length_nil] at h1
  rfl
theorem an_0_11 {m : Nat} {n c x d : Int} {D : td_D} (h : bc_o n 0 c D) (hc : c ≤ 4000) (hd : 0 ≤ d) (hd2 : d ≤ 39) : B_X8_answer (F_sw (m + 0)) 11 x d D = some (tv_xor x n, rL_o [] D) := by
  rw [ba_11, h.2.2.1]
  rfl
theorem an_0_2 {m : Nat} {n c x d : Int} {D : td_D} (h : bc_o n 0 c D) (hc : c ≤ 3760) (hd : 0 ≤ d) (hd2 : d ≤ 37) : B_X8_answer (F_sw (m + 6)) 2 x d D = some (tv_w ((tv_w ((tv_w (x + n)) * 2)) - (tv_xor 1 n)), rL_o [10, 1, 11] D) := by
  rw [ba_2]
  rw [fe_ow (m := m + 3) h hd (by omega) (by decide) rn_0_1, an_0_10 (m := m + 0) (bc_s (by omega) h) (by omega) (by omega) (by omega), td_bs]
  have h1 := bc_L [1] _ _ (by simp only [List.length_cons, List.length_nil]; omega) (bc_s (b := 10) (by omega) h)
  simp only [List.length_cons, List.length_nil] at h1
  rw [fe_ow (m := m + 3) h1 hd (by omega) (by decide) rn_0_2, an_0_11 (m := m + 3) (bc_s (by omega) h1) (by omega) (by omega) (by omega), td_bs]
  have h2 := bc_L [] _ _ (by simp only [List.length_cons, List.length_nil]; omega) (bc_s (b := 11) (by omega) h1)
  simp only [List.length_cons, List.length_nil] at h2
  rfl
theorem an_1_1 {m : Nat} {n c x d : Int} {D : td_D} (h : bc_o n 1 c D) (hc : c ≤ 4000) (hd : 0 ≤ d) (hd2 : d ≤ 39) : B_X8_answer (F_sw (m + 0)) 1 x d D = some (tv_w (x + n), rL_o [] D) := by
  rw [ba_1, h.2.2.1]
  rfl
theorem an_1_20 {m : Nat} {n c x d : Int} {D : td_D} (h : bc_o n 1 c D) (hc : c ≤ 3880) (hd : 0 ≤ d) (hd2 : d ≤ 38) : B_X8_answer (F_sw (m + 3)) 20 x d D = some (tv_w ((tv_w (x + n)) + 3), rL_o [1] D) := by
  rw [ba_20]
  rw [fe_ab (m := m + 0) h (by decide) (by decide) hd (by omega) (by decide) rn_0_0, an_1_1 (m := m + 0) (bc_s (by omega) h) (by omega) (by omega) (by omega), td_bs]
  have h1 := bc_L [] _ _ (by simp only [List.length_cons, List.length_nil]; omega) (bc_s (b := 1) (by omega) h)
  simp only [List.length_cons, List.length_nil] at h1
  rfl
theorem an_1_10 {m : Nat} {n c x d : Int} {D : td_D} (h : bc_o n 1 c D) (hc : c ≤ 3760) (hd : 0 ≤ d) (hd2 : d ≤ 37) : B_X8_answer (F_sw (m + 6)) 10 x d D = some (tv_w ((tv_w ((tv_w (x + n)) + 3)) * 2), rL_o [20, 1] D) := by
  rw [ba_10]
  rw [fe_ow (m := m + 3) h hd (by omega) (by decide) rn_1_0, an_1_20 (m := m + 0) (bc_s (by omega) h) (by omega) (by omega) (by omega), td_bs]
  have h1 := bc_L [1] _ _ (by simp only [List.length_cons, List.length_nil]; omega) (bc_s (b := 20) (by omega) h)
  simp only [List.length_cons, List.length_nil] at h1
  rfl
theorem an_1_11 {m : Nat} {n c x d : Int} {D : td_D} (h : bc_o n 1 c D) (hc : c ≤ 4000) (hd : 0 ≤ d) (hd2 : d ≤ 39) : B_X8_answer (F_sw (m + 0)) 11 x d D = some (tv_xor x n, rL_o [] D) := by
  rw [ba_11, h.2.2.1]
  rfl
theorem an_1_2 {m : Nat} {n c x d : Int} {D : td_D} (h : bc_o n 1 c D) (hc : c ≤ 3640) (hd : 0 ≤ d) (hd2 : d ≤ 36) : B_X8_answer (F_sw (m + 9)) 2 x d D = some (tv_w ((tv_w ((tv_w ((tv_w (x + n)) + 3)) * 2)) - (tv_xor 1 n)), rL_o [10, 20, 1, 11] D) := by
  rw [ba_2]
  rw [fe_ow (m := m + 6) h hd (by omega) (by decide) rn_1_1, an_1_10 (m := m + 0) (bc_s (by omega) h) (by omega) (by omega) (by omega), td_bs]
  have h1 := bc_L [20, 1] _ _ (by simp only [List.length_cons, List.length_nil]; omega) (bc_s (b := 10) (by omega) h)
  simp only [List.length_cons, List.length_nil] at h1
  rw [fe_ow (m := m + 6) h1 hd (by omega) (by decide) rn_1_2, an_1_11 (m := m + 6) (bc_s (by omega) h1) (by omega) (by omega) (by omega), td_bs]
  have h2 := bc_L [] _ _ (by simp only [List.length_cons, List.length_nil]; omega) (bc_s (b := 11) (by omega) h1)
  simp only [List.length_cons, List.length_nil] at h2
  rfl
theorem an_2_1 {m : Nat} {n c x d : Int} {D : td_D} (h : bc_o n 2 c D) (hc : c ≤ 4000) (hd : 0 ≤ d) (hd2 : d ≤ 39) : B_X8_answer (F_sw (m + 0)) 1 x d D = some (tv_w (x + n), rL_o [] D) := by
  rw [ba_1, h.2.2.1]
  rfl
theorem an_2_10 {m : Nat} {n c x d : Int} {D : td_D} (h : bc_o n 2 c D) (hc : c ≤ 3880) (hd : 0 ≤ d) (hd2 : d ≤ 38) : B_X8_answer (F_sw (m + 3)) 10 x d D = some (tv_w ((tv_w (x + n)) * 2), rL_o [1] D) := by
  rw [ba_10]
  rw [fe_ow (m := m + 0) h hd (by omega) (by decide) rn_2_0, an_2_1 (m := m + 0) (bc_s (by omega) h) (by omega) (by omega) (by omega), td_bs]
  have h1 := bc_L [] _ _ (by simp only [List.length_cons, List.length_nil]; omega) (bc_s (b := 1) (by omega) h)
  simp only [List.length_cons, List.length_nil] at h1
  rfl
theorem an_2_30 {m : Nat} {n c x d : Int} {D : td_D} (h : bc_o n 2 c D) (hc : c ≤ 3760) (hd : 0 ≤ d) (hd2 : d ≤ 37) : B_X8_answer (F_sw (m + 6)) 30 x d D = some (tv_w (-(tv_w ((tv_w (x + n)) * 2))), rL_o [10, 1] D) := by
  rw [ba_30]
  rw [fe_ab (m := m + 3) h (by decide) (by decide) hd (by omega) (by decide) rn_0_1, an_2_10 (m := m + 0) (bc_s (by omega) h) (by omega) (by omega) (by omega), td_bs]
  have h1 := bc_L [1] _ _ (by simp only [List.length_cons, List.length_nil]; omega) (bc_s (b := 10) (by omega) h)
  simp only [List.length_cons, List.length_nil] at h1
  rfl
theorem an_2_11 {m : Nat} {n c x d : Int} {D : td_D} (h : bc_o n 2 c D) (hc : c ≤ 4000) (hd : 0 ≤ d) (hd2 : d ≤ 39) : B_X8_answer (F_sw (m + 0)) 11 x d D = some (tv_xor x n, rL_o [] D) := by
  rw [ba_11, h.2.2.1]
  rfl
theorem an_2_2 {m : Nat} {n c x d : Int} {D : td_D} (h : bc_o n 2 c D) (hc : c ≤ 3640) (hd : 0 ≤ d) (hd2 : d ≤ 36) : B_X8_answer (F_sw (m + 9)) 2 x d D = some (tv_w ((tv_w (-(tv_w ((tv_w (x + n)) * 2)))) - (tv_xor 1 n)), rL_o [30, 10, 1, 11] D) := by
  rw [ba_2]
  rw [fe_ow (m := m + 6) h hd (by omega) (by decide) rn_2_1, an_2_30 (m := m + 0) (bc_s (by omega) h) (by omega) (by omega) (by omega), td_bs]
  have h1 := bc_L [10, 1] _ _ (by simp only [List.length_cons, List.length_nil]; omega) (bc_s (b := 30) (by omega) h)
  simp only [List.length_cons, List.length_nil] at h1
  rw [fe_ow (m := m + 6) h1 hd (by omega) (by decide) rn_2_2, an_2_11 (m := m + 6) (bc_s (by omega) h1) (by omega) (by omega) (by omega), td_bs]
  have h2 := bc_L [] _ _ (by simp only [List.length_cons, List.length_nil]; omega) (bc_s (b := 11) (by omega) h1)
  simp only [List.length_cons, List.length_nil] at h2
  rfl
theorem an_3_1 {m : Nat} {n c x d : Int} {D : td_D} (h : bc_o n 3 c D) (hc : c ≤ 4000) (hd : 0 ≤ d) (hd2 : d ≤ 39) : B_X8_answer (F_sw (m + 0)) 1 x d D = some (tv_w (x + n), rL_o [] D) := by
  rw [ba_1, h.2.2.1]
  rfl
theorem an_3_10 {m : Nat} {n c x d : Int} {D : td_D} (h : bc_o n 3 c D) (hc : c ≤ 3880) (hd : 0 ≤ d) (hd2 : d ≤ 38) : B_X8_answer (F_sw (m + 3)) 10 x d D = some (tv_w ((tv_w (x + n)) * 2), rL_o [1] D) := by
  rw [ba_10]
  rw [fe_ow (m := m + 0) h hd (by omega) (by decide) rn_3_0, an_3_1 (m := m + 0) (bc_s (by omega) h) (by omega) (by omega) (by omega), td_bs]
  have h1 := bc_L [] _ _ (by simp only [List.length_cons, List.length_nil]; omega) (bc_s (b := 1) (by omega) h)
  simp only [List.length_cons, List.length_nil] at h1
  rfl
theorem an_3_30 {m : Nat} {n c x d : Int} {D : td_D} (h : bc_o n 3 c D) (hc : c ≤ 3760) (hd : 0 ≤ d) (hd2 : d ≤ 37) : B_X8_answer (F_sw (m + 6)) 30 x d D = some (tv_w (-(tv_w ((tv_w (x + n)) * 2))), rL_o [10, 1] D) := by
  rw [ba_30]
  rw [fe_ab (m := m + 3) h (by decide) (by decide) hd (by omega) (by decide) rn_0_1, an_3_10 (m := m + 0) (bc_s (by omega) h) (by omega) (by omega) (by omega), td_bs]
  have h1 := bc_L [1] _ _ (by simp only [List.length_cons, List.length_nil]; omega) (bc_s (b := 10) (by omega) h)
  simp only [List.length_cons, List.length_nil] at h1
  rfl
theorem an_3_41 {m : Nat} {n c x d : Int} {D : td_D} (h : bc_o n 3 c D) (hc : c ≤ 3640) (hd : 0 ≤ d) (hd2 : d ≤ 36) : B_X8_answer (F_sw (m + 9)) 41 x d D = some ((tv_w (-(tv_w ((tv_w ((tv_w (x + 1)) + n)) * 2)))), rL_o [30, 10, 1] D) := by
  rw [ba_41]
  rw [fe_ab (m := m + 6) h (by decide) (by decide) hd (by omega) (by decide) rn_2_1, an_3_30 (m := m + 0) (bc_s (by omega) h) (by omega) (by omega) (by omega), td_bs]
  have h1 := bc_L [10, 1] _ _ (by simp only [List.length_cons, List.length_nil]; omega) (bc_s (b := 30) (by omega) h)
  simp only [List.length_cons, List.length_nil] at h1
  rfl
theorem an_3_11 {m : Nat} {n c x d : Int} {D : td_D} (h : bc_o n 3 c D) (hc : c ≤ 4000) (hd : 0 ≤ d) (hd2 : d ≤ 39) : B_X8_answer (F_sw (m + 0)) 11 x d D = some (tv_xor x n, rL_o [] D) := by
  rw [ba_11, h.2.2.1]
  rfl
theorem an_3_40 {m : Nat} {n c x d : Int} {D : td_D} (h : bc_o n 3 c D) (hc : c ≤ 3880) (hd : 0 ≤ d) (hd2 : d ≤ 38) : B_X8_answer (F_sw (m + 3)) 40 x d D = some (tv_w ((tv_xor x n) * 3), rL_o [11] D) := by
  rw [ba_40]
  rw [fe_ab (m := m + 0) h (by decide) (by decide) hd (by omega) (by decide) rn_2_2, an_3_11 (m := m + 0) (bc_s (by omega) h) (by omega) (by omega) (by omega), td_bs]
  have h1 := bc_L [] _ _ (by simp only [List.length_cons, List.length_nil]; omega) (bc_s (b := 11) (by omega) h)
  simp only [List.length_cons, List.length_nil] at h1
  rfl
theorem an_3_2 {m : Nat} {n c x d : Int} {D : td_D} (h : bc_o n 3 c D) (hc : c ≤ 3520) (hd : 0 ≤ d) (hd2 : d ≤ 35) : B_X8_answer (F_sw (m + 12)) 2 x d D = some (tv_w (((tv_w (-(tv_w ((tv_w ((tv_w (x + 1)) + n)) * 2))))) - (tv_w ((tv_xor 1 n) * 3))), rL_o [41, 30, 10, 1, 40, 11] D) := by
  rw [ba_2]
  rw [fe_ow (m := m + 9) h hd (by omega) (by decide) rn_3_1, an_3_41 (m := m + 0) (bc_s (by omega) h) (by omega) (by omega) (by omega), td_bs]
  have h1 := bc_L [30, 10, 1] _ _ (by simp only [List.length_cons, List.length_nil]; omega) (bc_s (b := 41) (by omega) h)
  simp only [List.length_cons, List.length_nil] at h1
  rw [fe_ow (m := m + 9) h1 hd (by omega) (by decide) rn_3_2, an_3_40 (m := m + 6) (bc_s (by omega) h1) (by omega) (by omega) (by omega), td_bs]
  have h2 := bc_L [11] _ _ (by simp only [List.length_cons, List.length_nil]; omega) (bc_s (b := 40) (by omega) h1)
  simp only [List.length_cons, List.length_nil] at h2
  rfl
theorem an_4_1 {m : Nat} {n c x d : Int} {D : td_D} (h : bc_o n 4 c D) (hc : c ≤ 4000) (hd : 0 ≤ d) (hd2 : d ≤ 39) : B_X8_answer (F_sw (m + 0)) 1 x d D = some (tv_w (x + n), rL_o [] D) := by
  rw [ba_1, h.2.2.1]
  rfl
theorem an_4_20 {m : Nat} {n c x d : Int} {D : td_D} (h : bc_o n 4 c D) (hc : c ≤ 3880) (hd : 0 ≤ d) (hd2 : d ≤ 38) : B_X8_answer (F_sw (m + 3)) 20 x d D = some (tv_w ((tv_w (x + n)) + 3), rL_o [1] D) := by
  rw [ba_20]
  rw [fe_ab (m := m + 0) h (by decide) (by decide) hd (by omega) (by decide) rn_0_0, an_4_1 (m := m + 0) (bc_s (by omega) h) (by omega) (by omega) (by omega), td_bs]
  have h1 := bc_L [] _ _ (by simp only [List.length_cons, List.length_nil]; omega) (bc_s (b := 1) (by omega) h)
  simp only [List.length_cons, List.length_nil] at h1
  rfl
theorem an_4_10 {m : Nat} {n c x d : Int} {D : td_D} (h : bc_o n 4 c D) (hc : c ≤ 3760) (hd : 0 ≤ d) (hd2 : d ≤ 37) : B_X8_answer (F_sw (m + 6)) 10 x d D = some (tv_w ((tv_w ((tv_w (x + n)) + 3)) * 2), rL_o [20, 1] D) := by
  rw [ba_10]
  rw [fe_ow (m := m + 3) h hd (by omega) (by decide) rn_4_0, an_4_20 (m := m + 0) (bc_s (by omega) h) (by omega) (by omega) (by omega), td_bs]
  have h1 := bc_L [1] _ _ (by simp only [List.length_cons, List.length_nil]; omega) (bc_s (b := 20) (by omega) h)
  simp only [List.length_cons, List.length_nil] at h1
  rfl
theorem an_4_11 {m : Nat} {n c x d : Int} {D : td_D} (h : bc_o n 4 c D) (hc : c ≤ 4000) (hd : 0 ≤ d) (hd2 : d ≤ 39) : B_X8_answer (F_sw (m + 0)) 11 x d D = some (tv_xor x n, rL_o [] D) := by
  rw [ba_11, h.2.2.1]
  rfl
theorem an_4_2 {m : Nat} {n c x d : Int} {D : td_D} (h : bc_o n 4 c D) (hc : c ≤ 3640) (hd : 0 ≤ d) (hd2 : d ≤ 36) : B_X8_answer (F_sw (m + 9)) 2 x d D = some (tv_w ((tv_w ((tv_w ((tv_w (x + n)) + 3)) * 2)) - (tv_xor 1 n)), rL_o [10, 20, 1, 11] D) := by
  rw [ba_2]
  rw [fe_ow (m := m + 6) h hd (by omega) (by decide) rn_4_1, an_4_10 (m := m + 0) (bc_s (by omega) h) (by omega) (by omega) (by omega), td_bs]
  have h1 := bc_L [20, 1] _ _ (by simp only [List.length_cons, List.length_nil]; omega) (bc_s (b := 10) (by omega) h)
  simp only [List.length_cons, List.length_nil] at h1
  rw [fe_ow (m := m + 6) h1 hd (by omega) (by decide) rn_4_2, an_4_11 (m := m + 6) (bc_s (by omega) h1) (by omega) (by omega) (by omega), td_bs]
  have h2 := bc_L [] _ _ (by simp only [List.length_cons, List.length_nil]; omega) (bc_s (b := 11) (by omega) h1)
  simp only [List.length_cons, List.length_nil] at h2
  rfl
theorem an_4_50 {m : Nat} {n c x d : Int} {D : td_D} (h : bc_o n 4 c D) (hc : c ≤ 3520) (hd : 0 ≤ d) (hd2 : d ≤ 35) : B_X8_answer (F_sw (m + 12)) 50 x d D = some (tv_xor (tv_w ((tv_w ((tv_w ((tv_w (x + n)) + 3)) * 2)) - (tv_xor 1 n))) 5, rL_o [2, 10, 20, 1, 11] D) := by
  rw [ba_50]
  rw [fe_ab (m := m + 9) h (by decide) (by decide) hd (by omega) (by decide) rn_1_3, an_4_2 (m := m + 0) (bc_s (by omega) h) (by omega) (by omega) (by omega), td_bs]
  have h1 := bc_L [10, 20, 1, 11] _ _ (by simp only [List.length_cons, List.length_nil]; omega) (bc_s (b := 2) (by omega) h)
  simp only [List.length_cons, List.length_nil] at h1
  rfl
theorem an_5_1 {m : Nat} {n c x d : Int} {D : td_D} (h : bc_o n 5 c D) (hc : c ≤ 4000) (hd : 0 ≤ d) (hd2 : d ≤ 39) : B_X8_answer (F_sw (m + 0)) 1 x d D = some (tv_w (x + n), rL_o [] D) := by
  rw [ba_1, h.2.2.1]
  rfl
theorem an_5_10 {m : Nat} {n c x d : Int} {D : td_D} (h : bc_o n 5 c D) (hc : c ≤ 3880) (hd : 0 ≤ d) (hd2 : d ≤ 38) : B_X8_answer (F_sw (m + 3)) 10 x d D = some (tv_w ((tv_w (x + n)) * 2), rL_o [1] D) := by
  rw [ba_10]
  rw [fe_ow (m := m + 0) h hd (by omega) (by decide) rn_5_0, an_5_1 (m := m + 0) (bc_s (by omega) h) (by omega) (by omega) (by omega), td_bs]
  have h1 := bc_L [] _ _ (by simp only [List.length_cons, List.length_nil]; omega) (bc_s (b := 1) (by omega) h)
  simp only [List.length_cons, List.length_nil] at h1
  rfl
theorem an_5_30 {m : Nat} {n c x d : Int} {D : td_D} (h : bc_o n 5 c D) (hc : c ≤ 3760) (hd : 0 ≤ d) (hd2 : d ≤ 37) : B_X8_answer (F_sw (m + 6)) 30 x d D = some (tv_w (-(tv_w ((tv_w (x + n)) * 2))), rL_o [10, 1] D) := by
  rw [ba_30]
  rw [fe_ab (m := m + 3) h (by decide) (by decide) hd (by omega) (by decide) rn_0_1, an_5_10 (m := m + 0) (bc_s (by omega) h) (by omega) (by omega) (by omega), td_bs]
  have h1 := bc_L [1] _ _ (by simp only [List.length_cons, List.length_nil]; omega) (bc_s (b := 10) (by omega) h)
  simp only [List.length_cons, List.length_nil] at h1
  rfl
theorem an_5_41 {m : Nat} {n c x d : Int} {D : td_D} (h : bc_o n 5 c D) (hc : c ≤ 3640) (hd : 0 ≤ d) (hd2 : d ≤ 36) : B_X8_answer (F_sw (m + 9)) 41 x d D = some ((tv_w (-(tv_w ((tv_w ((tv_w (x + 1)) + n)) * 2)))), rL_o [30, 10, 1] D) := by
  rw [ba_41]
  rw [fe_ab (m := m + 6) h (by decide) (by decide) hd (by omega) (by decide) rn_2_1, an_5_30 (m := m + 0) (bc_s (by omega) h) (by omega) (by omega) (by omega), td_bs]
  have h1 := bc_L [10, 1] _ _ (by simp only [List.length_cons, List.length_nil]; omega) (bc_s (b := 30) (by omega) h)
  simp only [List.length_cons, List.length_nil] at h1
  rfl
theorem an_5_11 {m : Nat} {n c x d : Int} {D : td_D} (h : bc_o n 5 c D) (hc : c ≤ 4000) (hd : 0 ≤ d) (hd2 : d ≤ 39) : B_X8_answer (F_sw (m + 0)) 11 x d D = some (tv_xor x n, rL_o [] D) := by
  rw [ba_11, h.2.2.1]
  rfl
theorem an_5_40 {m : Nat} {n c x d : Int} {D : td_D} (h : bc_o n 5 c D) (hc : c ≤ 3880) (hd : 0 ≤ d) (hd2 : d ≤ 38) : B_X8_answer (F_sw (m + 3)) 40 x d D = some (tv_w ((tv_xor x n) * 3), rL_o [11] D) := by
  rw [ba_40]
  rw [fe_ab (m := m + 0) h (by decide) (by decide) hd (by omega) (by decide) rn_2_2, an_5_11 (m := m + 0) (bc_s (by omega) h) (by omega) (by omega) (by omega), td_bs]
  have h1 := bc_L [] _ _ (by simp only [List.length_cons, List.length_nil]; omega) (bc_s (b := 11) (by omega) h)
  simp only [List.length_cons, List.length_nil] at h1
  rfl
theorem an_5_60 {m : Nat} {n c x d : Int} {D : td_D} (h : bc_o n 5 c D) (hc : c ≤ 3760) (hd : 0 ≤ d) (hd2 : d ≤ 37) : B_X8_answer (F_sw (m + 6)) 60 x d D = some (tv_w ((tv_w ((tv_xor x n) * 3)) - (tv_w (2 + n))), rL_o [40, 11, 1] D) := by
  rw [ba_60]
  rw [fe_ab (m := m + 3) h (by decide) (by decide) hd (by omega) (by decide) rn_3_2, an_5_40 (m := m + 0) (bc_s (by omega) h) (by omega) (by omega) (by omega), td_bs]
  have h1 := bc_L [11] _ _ (by simp only [List.length_cons, List.length_nil]; omega) (bc_s (b := 40) (by omega) h)
  simp only [List.length_cons, List.length_nil] at h1
  rw [fe_ow (m := m + 3) h1 hd (by omega) (by decide) rn_5_0, an_5_1 (m := m + 3) (bc_s (by omega) h1) (by omega) (by omega) (by omega), td_bs]
  have h2 := bc_L [] _ _ (by simp only [List.length_cons, List.length_nil]; omega) (bc_s (b := 1) (by omega) h1)
  simp only [List.length_cons, List.length_nil] at h2
  rfl
theorem an_5_2 {m : Nat} {n c x d : Int} {D : td_D} (h : bc_o n 5 c D) (hc : c ≤ 3520) (hd : 0 ≤ d) (hd2 : d ≤ 35) : B_X8_answer (F_sw (m + 12)) 2 x d D = some (tv_w (((tv_w (-(tv_w ((tv_w ((tv_w (x + 1)) + n)) * 2))))) - (tv_w ((tv_w ((tv_xor 1 n) * 3)) - (tv_w (2 + n))))), rL_o [41, 30, 10, 1, 60, 40, 11, 1] D) := by
  rw [ba_2]
  rw [fe_ow (m := m + 9) h hd (by omega) (by decide) rn_5_1, an_5_41 (m := m + 0) (bc_s (by omega) h) (by omega) (by omega) (by omega), td_bs]
  have h1 := bc_L [30, 10, 1] _ _ (by simp only [List.length_cons, List.length_nil]; omega) (bc_s (b := 41) (by omega) h)
  simp only [List.length_cons, List.length_nil] at h1
  rw [fe_ow (m := m + 9) h1 hd (by omega) (by decide) rn_5_2, an_5_60 (m := m + 3) (bc_s (by omega) h1) (by omega) (by omega) (by omega), td_bs]
  have h2 := bc_L [40, 11, 1] _ _ (by simp only [List.length_cons, List.length_nil]; omega) (bc_s (b := 60) (by omega) h1)
  simp only [List.length_cons, List.length_nil] at h2
  rfl
theorem an_5_61 {m : Nat} {n c x d : Int} {D : td_D} (h : bc_o n 5 c D) (hc : c ≤ 3400) (hd : 0 ≤ d) (hd2 : d ≤ 34) : B_X8_answer (F_sw (m + 15)) 61 x d D = some (tv_w ((tv_w (((tv_w (-(tv_w ((tv_w ((tv_w (x + 1)) + n)) * 2))))) - (tv_w ((tv_w ((tv_xor 1 n) * 3)) - (tv_w (2 + n)))))) + 1), rL_o [2, 41, 30, 10, 1, 60, 40, 11, 1] D) := by
  rw [ba_61]
  rw [fe_ab (m := m + 12) h (by decide) (by decide) hd (by omega) (by decide) rn_3_3, an_5_2 (m := m + 0) (bc_s (by omega) h) (by omega) (by omega) (by omega), td_bs]
  have h1 := bc_L [41, 30, 10, 1, 60, 40, 11, 1] _ _ (by simp only [List.length_cons, List.length_nil]; omega) (bc_s (b := 2) (by omega) h)
  simp only [List.length_cons, List.length_nil] at h1
  rfl
theorem an_6_1 {m : Nat} {n c x d : Int} {D : td_D} (h : bc_o n 6 c D) (hc : c ≤ 4000) (hd : 0 ≤ d) (hd2 : d ≤ 39) : B_X8_answer (F_sw (m + 0)) 1 x d D = some (tv_w (x + n), rL_o [] D) := by
  rw [ba_1, h.2.2.1]
  rfl
theorem an_6_70 {m : Nat} {n c x d : Int} {D : td_D} (h : bc_o n 6 c D) (hc : c ≤ 3880) (hd : 0 ≤ d) (hd2 : d ≤ 38) : B_X8_answer (F_sw (m + 3)) 70 x d D = some (tv_w ((tv_w (x + n)) * 2), rL_o [1] D) := by
  rw [ba_70]
  rw [fe_ab (m := m + 0) h (by decide) (by decide) hd (by omega) (by decide) rn_0_0, an_6_1 (m := m + 0) (bc_s (by omega) h) (by omega) (by omega) (by omega), td_bs]
  have h1 := bc_L [] _ _ (by simp only [List.length_cons, List.length_nil]; omega) (bc_s (b := 1) (by omega) h)
  simp only [List.length_cons, List.length_nil] at h1
  rfl
theorem an_6_10 {m : Nat} {n c x d : Int} {D : td_D} (h : bc_o n 6 c D) (hc : c ≤ 3760) (hd : 0 ≤ d) (hd2 : d ≤ 37) : B_X8_answer (F_sw (m + 6)) 10 x d D = some (tv_w ((tv_w ((tv_w (x + n)) * 2)) * 2), rL_o [70, 1] D) := by
  rw [ba_10]
  rw [fe_ow (m := m + 3) h hd (by omega) (by decide) rn_6_0, an_6_70 (m := m + 0) (bc_s (by omega) h) (by omega) (by omega) (by omega), td_bs]
  have h1 := bc_L [1] _ _ (by simp only [List.length_cons, List.length_nil]; omega) (bc_s (b := 70) (by omega) h)
  simp only [List.length_cons, List.length_nil] at h1
  rfl
theorem an_6_11 {m : Nat} {n c x d : Int} {D : td_D} (h : bc_o n 6 c D) (hc : c ≤ 4000) (hd : 0 ≤ d) (hd2 : d ≤ 39) : B_X8_answer (F_sw (m + 0)) 11 x d D = some (tv_xor x n, rL_o [] D) := by
  rw [ba_11, h.2.2.1]
  rfl
theorem an_6_2 {m : Nat} {n c x d : Int} {D : td_D} (h : bc_o n 6 c D) (hc : c ≤ 3640) (hd : 0 ≤ d) (hd2 : d ≤ 36) : B_X8_answer (F_sw (m + 9)) 2 x d D = some (tv_w ((tv_w ((tv_w ((tv_w (x + n)) * 2)) * 2)) - (tv_xor 1 n)), rL_o [10, 70, 1, 11] D) := by
  rw [ba_2]
  rw [fe_ow (m := m + 6) h hd (by omega) (by decide) rn_6_1, an_6_10 (m := m + 0) (bc_s (by omega) h) (by omega) (by omega) (by omega), td_bs]
  have h1 := bc_L [70, 1] _ _ (by simp only [List.length_cons, List.length_nil]; omega) (bc_s (b := 10) (by omega) h)
  simp only [List.length_cons, List.length_nil] at h1
  rw [fe_ow (m := m + 6) h1 hd (by omega) (by decide) rn_6_2, an_6_11 (m := m + 6) (bc_s (by omega) h1) (by omega) (by omega) (by omega), td_bs]
  have h2 := bc_L [] _ _ (by simp only [List.length_cons, List.length_nil]; omega) (bc_s (b := 11) (by omega) h1)
  simp only [List.length_cons, List.length_nil] at h2
  rfl
theorem an_7_1 {m : Nat} {n c x d : Int} {D : td_D} (h : bc_o n 7 c D) (hc : c ≤ 4000) (hd : 0 ≤ d) (hd2 : d ≤ 39) : B_X8_answer (F_sw (m + 0)) 1 x d D = some (tv_w (x + n), rL_o [] D) := by
  rw [ba_1, h.2.2.1]
  rfl
theorem an_7_70 {m : Nat} {n c x d : Int} {D : td_D} (h : bc_o n 7 c D) (hc : c ≤ 3880) (hd : 0 ≤ d) (hd2 : d ≤ 38) : B_X8_answer (F_sw (m + 3)) 70 x d D = some (tv_w ((tv_w (x + n)) * 2), rL_o [1] D) := by
  rw [ba_70]
  rw [fe_ab (m := m + 0) h (by decide) (by decide) hd (by omega) (by decide) rn_0_0, an_7_1 (m := m + 0) (bc_s (by omega) h) (by omega) (by omega) (by omega), td_bs]
  have h1 := bc_L [] _ _ (by simp only [List.length_cons, List.length_nil]; omega) (bc_s (b := 1) (by omega) h)
  simp only [List.length_cons, List.length_nil] at h1
  rfl
theorem an_7_81 {m : Nat} {n c x d : Int} {D : td_D} (h : bc_o n 7 c D) (hc : c ≤ 3760) (hd : 0 ≤ d) (hd2 : d ≤ 37) : B_X8_answer (F_sw (m + 6)) 81 x d D = some (tv_w ((tv_w ((tv_w (x + n)) * 2)) - 1), rL_o [70, 1] D) := by
  rw [ba_81]
  rw [fe_ab (m := m + 3) h (by decide) (by decide) hd (by omega) (by decide) rn_6_0, an_7_70 (m := m + 0) (bc_s (by omega) h) (by omega) (by omega) (by omega), td_bs]
  have h1 := bc_L [1] _ _ (by simp only [List.length_cons, List.length_nil]; omega) (bc_s (b := 70) (by omega) h)
  simp only [List.length_cons, List.length_nil] at h1
  rfl
theorem an_7_10 {m : Nat} {n c x d : Int} {D : td_D} (h : bc_o n 7 c D) (hc : c ≤ 3640) (hd : 0 ≤ d) (hd2 : d ≤ 36) : B_X8_answer (F_sw (m + 9)) 10 x d D = some (tv_w ((tv_w ((tv_w ((tv_w (x + n)) * 2)) - 1)) * 2), rL_o [81, 70, 1] D) := by
  rw [ba_10]
  rw [fe_ow (m := m + 6) h hd (by omega) (by decide) rn_7_0, an_7_81 (m := m + 0) (bc_s (by omega) h) (by omega) (by omega) (by omega), td_bs]
  have h1 := bc_L [70, 1] _ _ (by simp only [List.length_cons, List.length_nil]; omega) (bc_s (b := 81) (by omega) h)
  simp only [List.length_cons, List.length_nil] at h1
  rfl
theorem an_7_11 {m : Nat} {n c x d : Int} {D : td_D} (h : bc_o n 7 c D) (hc : c ≤ 4000) (hd : 0 ≤ d) (hd2 : d ≤ 39) : B_X8_answer (F_sw (m + 0)) 11 x d D = some (tv_xor x n, rL_o [] D) := by
  rw [ba_11, h.2.2.1]
  rfl
theorem an_7_80 {m : Nat} {n c x d : Int} {D : td_D} (h : bc_o n 7 c D) (hc : c ≤ 3520) (hd : 0 ≤ d) (hd2 : d ≤ 35) : B_X8_answer (F_sw (m + 12)) 80 x d D = some (tv_w ((tv_w ((tv_w ((tv_w ((tv_w (x + n)) * 2)) - 1)) * 2)) + (tv_xor 2 n)), rL_o [10, 81, 70, 1, 11] D) := by
  rw [ba_80]
  rw [fe_ab (m := m + 9) h (by decide) (by decide) hd (by omega) (by decide) rn_6_1, an_7_10 (m := m + 0) (bc_s (by omega) h) (by omega) (by omega) (by omega), td_bs]
  have h1 := bc_L [81, 70, 1] _ _ (by simp only [List.length_cons, List.length_nil]; omega) (bc_s (b := 10) (by omega) h)
  simp only [List.length_cons, List.length_nil] at h1
  rw [fe_ow (m := m + 9) h1 hd (by omega) (by decide) rn_7_2, an_7_11 (m := m + 9) (bc_s (by omega) h1) (by omega) (by omega) (by omega), td_bs]
  have h2 := bc_L [] _ _ (by simp only [List.length_cons, List.length_nil]; omega) (bc_s (b := 11) (by omega) h1)
  simp only [List.length_cons, List.length_nil] at h2
  rfl
theorem an_7_2 {m : Nat} {n c x d : Int} {D : td_D} (h : bc_o n 7 c D) (hc : c ≤ 3400) (hd : 0 ≤ d) (hd2 : d ≤ 34) : B_X8_answer (F_sw (m + 15)) 2 x d D = some (tv_w ((tv_w ((tv_w ((tv_w ((tv_w ((tv_w (x + n)) * 2)) - 1)) * 2)) + (tv_xor 2 n))) - (tv_xor 1 n)), rL_o [80, 10, 81, 70, 1, 11, 11] D) := by
  rw [ba_2]
  rw [fe_ow (m := m + 12) h hd (by omega) (by decide) rn_7_1, an_7_80 (m := m + 0) (bc_s (by omega) h) (by omega) (by omega) (by omega), td_bs]
  have h1 := bc_L [10, 81, 70, 1, 11] _ _ (by simp only [List.length_cons, List.length_nil]; omega) (bc_s (b := 80) (by omega) h)
  simp only [List.length_cons, List.length_nil] at h1
  rw [fe_ow (m := m + 12) h1 hd (by omega) (by decide) rn_7_2, an_7_11 (m := m + 12) (bc_s (by omega) h1) (by omega) (by omega) (by omega), td_bs]
  have h2 := bc_L [] _ _ (by simp only [List.length_cons, List.length_nil]; omega) (bc_s (b := 11) (by omega) h1)
  simp only [List.length_cons, List.length_nil] at h2
  rfl
theorem fm_ran {b : Int} {E : td_D} (h : 0 ≤ E 1 52) : F_X12_ran b E = some (0, rm_o b E) := by
  unfold F_X12_ran rm_o
  by_cases c : 24 ≤ E 1 52
  · rw [if_pos c, if_pos c]; rfl
  · rw [if_neg c, if_neg c, if_pos (by omega), td_ls, td_ls]
    rfl
