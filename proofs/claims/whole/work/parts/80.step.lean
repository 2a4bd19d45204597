theorem tr_q {q : Nat} (hq : q = 12 ∨ q = 16) : td_r g_c q 0 = q + 1 ∧ td_r g_c q 1 = q + 2 ∧ td_r g_c q 2 = q + 3 := by
  rcases hq with rfl | rfl
  · exact ⟨rfl, rfl, rfl⟩
  · exact ⟨rfl, rfl, rfl⟩
/-- a sign between two -/
def jo_o (c a b : Int) : Int := if c = 37 then (if b = 0 then 0 else tv_rem a b) else if c = 38 then (if a = 0 then 0 else if b = 0 then 0 else 1) else if c = 42 then tv_w (a * b) else if c = 43 then tv_w (a + b) else if c = 45 then tv_w (a - b) else if c = 47 then (if b = 0 then 0 else tv_div a b) else if c = 60 then (if b ≤ a then 0 else 1) else if c = 61 then (if a = b then 1 else 0) else if c = 62 then (if a ≤ b then 0 else 1) else if c = 124 then (if a = 0 then (if b = 0 then 0 else 1) else 1) else 0
theorem fe_truth0 {D : td_D} : F_X1_truth 0 D = some (0, D) := rfl
theorem fe_truth1 {D : td_D} : F_X1_truth 1 D = some (1, D) := rfl
theorem fe_joined {c a b : Int} {D : td_D} (h : c = 124 ∨ c = 38 ∨ c = 60 ∨ c = 61 ∨ c = 62 ∨ c = 43 ∨ c = 45 ∨ c = 42 ∨ c = 47 ∨ c = 37) : F_X1_joined c a b D = some (jo_o c a b, D) := by
  unfold F_X1_joined jo_o
  simp only [fe_truth0, fe_truth1, tb_s]
  rcases h with rfl | rfl | rfl | rfl | rfl | rfl | rfl | rfl | rfl | rfl
  · simp (disch := decide) only [if_neg, if_pos, if_true]
    try ((repeat' split) <;> first | rfl | omega)
  · simp (disch := decide) only [if_neg, if_pos, if_true]
    try ((repeat' split) <;> first | rfl | omega)
  · simp (disch := decide) only [if_neg, if_pos, if_true]
    try ((repeat' split) <;> first | rfl | omega)
  · simp (disch := decide) only [if_neg, if_pos, if_true]
    try ((repeat' split) <;> first | rfl | omega)
  · simp (disch := decide) only [if_neg, if_pos, if_true]
    try ((repeat' split) <;> first | rfl | omega)
  · simp (disch := decide) only [if_neg, if_pos, if_true]
    try ((repeat' split) <;> first | rfl | omega)
  · simp (disch := decide) only [if_neg, if_pos, if_true]
    try ((repeat' split) <;> first | rfl | omega)
  · simp (disch := decide) only [if_neg, if_pos, if_true]
    try ((repeat' split) <;> first | rfl | omega)
  · simp (disch := decide) only [if_neg, if_pos, if_true]
    try ((repeat' split) <;> first | rfl | omega)
  · simp (disch := decide) only [if_neg, if_pos, if_true]
    try ((repeat' split) <;> first | rfl | omega)
theorem fm_twoOf {c a b : Int} {D : td_D} (h : c = 124 ∨ c = 38 ∨ c = 60 ∨ c = 61 ∨ c = 62 ∨ c = 43 ∨ c = 45 ∨ c = 42 ∨ c = 47 ∨ c = 37) : F_X12_twoOf c a b D = some (jo_o c a b, D) := by
  have d1 : tv_div a (-1) = tv_w (-a) := by
    unfold tv_div
    rw [Int.tdiv_neg, Int.tdiv_one]
  have r1 : tv_rem a (-1) = 0 := by
    unfold tv_rem
    rw [Int.tmod_neg, Int.tmod_one]
  unfold F_X12_twoOf F_X12_twoOf_218 jo_o
  rcases h with rfl | rfl | rfl | rfl | rfl | rfl | rfl | rfl | rfl | rfl
  · simp (disch := decide) only [if_neg, if_pos]
    try simp only [if_true]
    (repeat' split) <;> first | rfl | omega
  · simp (disch := decide) only [if_neg, if_pos]
    try simp only [if_true]
    (repeat' split) <;> first | rfl | omega
  · simp (disch := decide) only [if_neg, if_pos]
    try simp only [if_true]
    (repeat' split) <;> first | rfl | omega
  · simp (disch := decide) only [if_neg, if_pos]
    try simp only [if_true]
    (repeat' split) <;> first | rfl | omega
  · simp (disch := decide) only [if_neg, if_pos]
    try simp only [if_true]
    (repeat' split) <;> first | rfl | omega
  · simp (disch := decide) only [if_neg, if_pos, if_true]
  · simp (disch := decide) only [if_neg, if_pos, if_true]
  · simp (disch := decide) only [if_neg, if_pos, if_true]
  · simp (disch := decide) only [if_neg, if_pos]
    try simp only [if_true]
    by_cases b0 : b = 0
    · simp only [if_pos b0]
    · by_cases b1 : b = -1
      · simp only [if_neg b0, if_pos b1]
        rw [b1, d1]
      · simp only [if_neg b0, if_neg b1]
  · simp (disch := decide) only [if_neg, if_pos]
    try simp only [if_true]
    by_cases b0 : b = 0
    · simp only [if_pos b0]
    · by_cases b1 : b = -1
      · simp only [if_neg b0, if_pos b1]
        rw [b1, r1]
      · simp only [if_neg b0, if_neg b1]
/-- one step of the law, on both sides -/
theorem lk_step {q A B H H' : Nat} {D E : td_D} (hq : q = 12 ∨ q = 16) (sz : D q 3 ≤ 128) (hA : (A : Int) < D q 3) (hB : B < 130) (hH : H ≤ 127) (nm : ∀ i : Nat, i < 6 → E 19 i = D 20 i) (pl : ∀ i : Nat, i < H → E 20 i = D (q + 3) i) (ps : p_step (D (q + 1) A) (D (q + 2) A) (E 14 B) (E 15 B))
    (hh : ((E 14 B = 1 ∨ E 14 B = 2) ∧ H' = H + 1) ∨ ((E 14 B = 3 ∨ E 14 B = 4) ∧ 1 ≤ H ∧ H' = H) ∨ (5 ≤ E 14 B ∧ 2 ≤ H ∧ H' + 1 = H)) :
    ∃ D' E' : td_D, (∀ m : Nat, F_X1_workOut_4 (m + 1) q (H : Int) (A : Int) D = F_X1_workOut_4 m q (H' : Int) ((A : Int) + 1) D') ∧ (∀ (m : Nat) (e : Int), (B : Int) < e → e ≤ 130 → F_X12_worked_12 (m + 1) 0 e (H : Int) (B : Int) E = F_X12_worked_12 m 0 e (H' : Int) ((B : Int) + 1) E') ∧ (∀ i : Nat, i < H' → E' 20 i = D' (q + 3) i) ∧ (∀ r : Nat, r ≠ q + 3 → D' r = D r) ∧ ∀ r : Nat, r ≠ 20 → E' r = E r := by
  obtain ⟨t0, t1, t2⟩ := tr_q hq
  have q20 : (20 : Nat) ≠ q + 3 := by omega
  have up : ∀ (j : Nat) (x : Int), (∀ i : Nat, i < H' → i ≠ j → i < H) → (∀ i : Nat, i < H' → td_upd E 20 j x 20 i = td_upd D (q + 3) j x (q + 3) i) ∧ (∀ r : Nat, r ≠ q + 3 → td_upd D (q + 3) j x r = D r) ∧ (∀ r : Nat, r ≠ 20 → td_upd E 20 j x r = E r) := by
    intro j x h
    refine ⟨fun i hi => ?_, fun r hr => tu_row hr, fun r hr => tu_row hr⟩
    rw [tu_at, tu_at]
    unfold tv_up
    by_cases z : i = j
    · rw [if_pos z, if_pos z]
    · rw [if_neg z, if_neg z]
      exact pl i (h i hi z)
  have a128 : 0 ≤ (A : Int) ∧ (A : Int) < ((128 : Nat) : Int) := by omega
  have b260 : 0 ≤ (B : Int) ∧ (B : Int) < ((260 : Nat) : Int) := by omega
  have e0 : ∀ e : Int, e ≤ 130 → (B : Int) < e → ¬ tv_w (tv_w (130 * 0) + e) ≤ (B : Int) := by
    intro e h1 h2
    rw [tw_s (a := 130 * 0) (by omega) (by omega), tw_s (by omega) (by omega)]
    omega
  have sa : ¬ D q 3 ≤ (A : Int) := by omega
  unfold p_step at ps
  rcases ps with ⟨c1, c2, c3⟩ | ⟨c1, c2, c3, c4, c5⟩ | ⟨c1, c2⟩ | ⟨c1, c2⟩ | ⟨c1, c2⟩
  · have h1 : H' = H + 1 := by omega
    subst h1
    have hh1 : 0 ≤ (H : Int) ∧ (H : Int) < ((128 : Nat) : Int) := by omega
    have hh2 : 0 ≤ (H : Int) ∧ (H : Int) < ((130 : Nat) : Int) := by omega
    obtain ⟨u1, u2, u3⟩ := up H (D (q + 2) A) (fun i h1 h2 => by omega)
    refine ⟨td_upd D (q + 3) H (D (q + 2) A), td_upd E 20 H (D (q + 2) A), fun m => ?_, fun m e he he2 => ?_, u1, u2, u3⟩
    · conv =>
        lhs
        unfold F_X1_workOut_4 F_X1_workOut_32 F_X1_workOut_225
      rw [t0, t1, t2, tw_s (a := (A : Int) + 1) (by omega) (by omega)]
      simp only [if_neg sa, if_pos a128, Int.toNat_natCast]
      simp only [if_pos c1, if_pos hh1, tb_l]
      rw [tw_s (a := (H : Int) + 1) (by omega) (by omega)]
      rfl
    · conv =>
        lhs
        unfold F_X12_worked_12 F_X12_worked_45
      rw [tw_s (a := (B : Int) + 1) (by omega) (by omega)]
      simp only [if_neg (e0 e he2 he), if_pos b260, Int.toNat_natCast]
      simp only [if_pos c2, if_pos hh2, tb_l, c3]
      rw [tw_s (a := (H : Int) + 1) (by omega) (by omega)]
      rfl
  · have h1 : H' = H + 1 := by omega
    subst h1
    have hh1 : 0 ≤ (H : Int) ∧ (H : Int) < ((128 : Nat) : Int) := by omega
    have hh2 : 0 ≤ (H : Int) ∧ (H : Int) < ((130 : Nat) : Int) := by omega
    have v6 : 0 ≤ D (q + 2) A ∧ D (q + 2) A < ((6 : Nat) : Int) := by omega
    have nn := nm (D (q + 2) A).toNat (by omega)
    obtain ⟨u1, u2, u3⟩ := up H (D 20 (D (q + 2) A).toNat) (fun i h1 h2 => by omega)
    refine ⟨td_upd D (q + 3) H (D 20 (D (q + 2) A).toNat), td_upd E 20 H (D 20 (D (q + 2) A).toNat), fun m => ?_, fun m e he he2 => ?_, u1, u2, u3⟩
    · conv =>
        lhs
        unfold F_X1_workOut_4 F_X1_workOut_32 F_X1_workOut_225
      rw [t0, t1, t2, tw_s (a := (A : Int) + 1) (by omega) (by omega)]
      simp only [if_neg sa, if_pos a128, Int.toNat_natCast]
      simp only [if_neg (show ¬ D (q + 1) A = 1 by omega), if_pos c1, if_pos hh1, if_pos v6, tb_l]
      rw [tw_s (a := (H : Int) + 1) (by omega) (by omega)]
      rfl
    · conv =>
        lhs
        unfold F_X12_worked_12 F_X12_worked_45
      rw [tw_s (a := (B : Int) + 1) (by omega) (by omega)]
      simp only [if_neg (e0 e he2 he), if_pos b260, Int.toNat_natCast]
      simp only [if_neg (show ¬ E 14 B = 1 by omega), if_pos c2, if_pos hh2, tb_l, c3, if_pos v6, nn]
      rw [tw_s (a := (H : Int) + 1) (by omega) (by omega)]
      rfl
  · have h1 : 1 ≤ H ∧ H' = H := by omega
    obtain ⟨h1, rfl⟩ := h1
    have hh1 : 0 ≤ (H' : Int) - 1 ∧ (H' : Int) - 1 < ((128 : Nat) : Int) := by omega
    have hh2 : 0 ≤ (H' : Int) - 1 ∧ (H' : Int) - 1 < ((130 : Nat) : Int) := by omega
    have pp := pl (H' - 1) (by omega)
    have ej : ((H' : Int) - 1).toNat = H' - 1 := by omega
    obtain ⟨u1, u2, u3⟩ := up (H' - 1) (tv_w (-D (q + 3) (H' - 1))) (fun i h1 h2 => h1)
    refine ⟨td_upd D (q + 3) (H' - 1) (tv_w (-D (q + 3) (H' - 1))), td_upd E 20 (H' - 1) (tv_w (-D (q + 3) (H' - 1))), fun m => ?_, fun m e he he2 => ?_, u1, u2, u3⟩
    · conv =>
        lhs
        unfold F_X1_workOut_4 F_X1_workOut_32 F_X1_workOut_225
      rw [t0, t1, t2, tw_s (a := (A : Int) + 1) (by omega) (by omega)]
      simp only [if_neg sa, if_pos a128, Int.toNat_natCast]
      rw [tw_s (a := (H' : Int) - 1) (by omega) (by omega)]
      simp only [if_neg (show ¬ D (q + 1) A = 1 by omega), if_neg (show ¬ D (q + 1) A = 2 by omega), if_pos (show (1 : Int) ≤ (H' : Int) by omega), if_neg (show ¬ D (q + 1) A = 5 by omega), if_neg (show ¬ D (q + 1) A = 6 by omega), if_pos c1, if_pos hh1, tb_l, ej]
    · conv =>
        lhs
        unfold F_X12_worked_12 F_X12_worked_45
      rw [tw_s (a := (B : Int) + 1) (by omega) (by omega)]
      simp only [if_neg (e0 e he2 he), if_pos b260, Int.toNat_natCast]
      rw [tw_s (a := (H' : Int) - 1) (by omega) (by omega)]
      simp only [if_neg (show ¬ E 14 B = 1 by omega), if_neg (show ¬ E 14 B = 2 by omega), if_neg (show ¬ E 14 B = 3 by omega), if_pos c2, if_pos hh2, tb_l, ej, pp]
  · have h1 : 1 ≤ H ∧ H' = H := by omega
    obtain ⟨h1, rfl⟩ := h1
    have hh1 : 0 ≤ (H' : Int) - 1 ∧ (H' : Int) - 1 < ((128 : Nat) : Int) := by omega
    have hh2 : 0 ≤ (H' : Int) - 1 ∧ (H' : Int) - 1 < ((130 : Nat) : Int) := by omega
    have pp := pl (H' - 1) (by omega)
    have ej : ((H' : Int) - 1).toNat = H' - 1 := by omega
    obtain ⟨u1, u2, u3⟩ := up (H' - 1) (if D (q + 3) (H' - 1) = 0 then 1 else 0) (fun i h1 h2 => h1)
    refine ⟨td_upd D (q + 3) (H' - 1) (if D (q + 3) (H' - 1) = 0 then 1 else 0), td_upd E 20 (H' - 1) (if D (q + 3) (H' - 1) = 0 then 1 else 0), fun m => ?_, fun m e he he2 => ?_, u1, u2, u3⟩
    · conv =>
        lhs
        unfold F_X1_workOut_4 F_X1_workOut_32 F_X1_workOut_225
      rw [t0, t1, t2, tw_s (a := (A : Int) + 1) (by omega) (by omega)]
      simp only [if_neg sa, if_pos a128, Int.toNat_natCast]
      rw [tw_s (a := (H' : Int) - 1) (by omega) (by omega)]
      simp only [if_neg (show ¬ D (q + 1) A = 1 by omega), if_neg (show ¬ D (q + 1) A = 2 by omega), if_pos (show (1 : Int) ≤ (H' : Int) by omega), if_neg (show ¬ D (q + 1) A = 5 by omega), if_neg (show ¬ D (q + 1) A = 6 by omega), if_neg (show ¬ D (q + 1) A = 3 by omega), if_pos c1, if_pos hh1, tb_l, ej, fe_truth0, fe_truth1, tb_s]
      first | rfl | (split <;> rfl)
    · conv =>
        lhs
        unfold F_X12_worked_12 F_X12_worked_45
      rw [tw_s (a := (B : Int) + 1) (by omega) (by omega)]
      simp only [if_neg (e0 e he2 he), if_pos b260, Int.toNat_natCast]
      rw [tw_s (a := (H' : Int) - 1) (by omega) (by omega)]
      simp only [if_neg (show ¬ E 14 B = 1 by omega), if_neg (show ¬ E 14 B = 2 by omega), if_pos c2, if_pos hh2, tb_l, ej, pp]
      first | rfl | (split <;> rfl)
  · have h1 : 2 ≤ H ∧ H' + 1 = H := by omega
    obtain ⟨h1, rfl⟩ := h1
    have hh1 : 0 ≤ (H' : Int) - 1 ∧ (H' : Int) - 1 < ((128 : Nat) : Int) := by omega
    have hh2 : 0 ≤ (H' : Int) - 1 ∧ (H' : Int) - 1 < ((130 : Nat) : Int) := by omega
    have hh3 : 0 ≤ (H' : Int) ∧ (H' : Int) < ((128 : Nat) : Int) := by omega
    have hh4 : 0 ≤ (H' : Int) ∧ (H' : Int) < ((130 : Nat) : Int) := by omega
    have pp := pl (H' - 1) (by omega)
    have pp2 := pl H' (by omega)
    have ej : ((H' : Int) - 1).toNat = H' - 1 := by omega
    have eh : ((H' + 1 : Nat) : Int) + -1 = (H' : Int) := by omega
    obtain ⟨u1, u2, u3⟩ := up (H' - 1) (jo_o (D (q + 1) A) (D (q + 3) (H' - 1)) (D (q + 3) H')) (fun i h1 h2 => by omega)
    refine ⟨td_upd D (q + 3) (H' - 1) (jo_o (D (q + 1) A) (D (q + 3) (H' - 1)) (D (q + 3) H')), td_upd E 20 (H' - 1) (jo_o (D (q + 1) A) (D (q + 3) (H' - 1)) (D (q + 3) H')), fun m => ?_, fun m e he he2 => ?_, u1, u2, u3⟩
    · conv =>
        lhs
        unfold F_X1_workOut_4 F_X1_workOut_32 F_X1_workOut_225
      rw [t0, t1, t2, tw_s (a := (A : Int) + 1) (by omega) (by omega)]
      simp only [if_neg sa, if_pos a128, Int.toNat_natCast]
      rw [tw_s (a := ((H' + 1 : Nat) : Int) + -1) (by omega) (by omega), eh, tw_s (a := (H' : Int) - 1) (by omega) (by omega)]
      simp only [if_neg (show ¬ D (q + 1) A = 1 by omega), if_neg (show ¬ D (q + 1) A = 2 by omega), if_pos (show (1 : Int) ≤ ((H' + 1 : Nat) : Int) by omega), if_neg (show ¬ D (q + 1) A = 5 by omega), if_neg (show ¬ D (q + 1) A = 6 by omega), if_neg (show ¬ D (q + 1) A = 3 by omega), if_neg (show ¬ D (q + 1) A = 4 by omega), if_neg (show ¬ ((H' + 1 : Nat) : Int) < 2 by omega), if_pos hh1, if_pos hh3, tb_l, ej, fe_joined c2, tb_s, Int.toNat_natCast]
    · conv =>
        lhs
        unfold F_X12_worked_12 F_X12_worked_45
      rw [tw_s (a := (B : Int) + 1) (by omega) (by omega)]
      simp only [if_neg (e0 e he2 he), if_pos b260, Int.toNat_natCast]
      rw [tw_s (a := ((H' + 1 : Nat) : Int) + -1) (by omega) (by omega), eh, tw_s (a := (H' : Int) - 1) (by omega) (by omega)]
      simp only [if_neg (show ¬ E 14 B = 1 by omega), if_neg (show ¬ E 14 B = 2 by omega), if_neg (show ¬ E 14 B = 3 by omega), if_neg (show ¬ E 14 B = 4 by omega), if_pos hh2, if_pos hh4, tb_l, ej, fm_twoOf (show E 14 B = 124 ∨ E 14 B = 38 ∨ E 14 B = 60 ∨ E 14 B = 61 ∨ E 14 B = 62 ∨ E 14 B = 43 ∨ E 14 B = 45 ∨ E 14 B = 42 ∨ E 14 B = 47 ∨ E 14 B = 37 by rw [c1]; exact c2), tb_s, Int.toNat_natCast, pp, pp2]
      rw [c1]
