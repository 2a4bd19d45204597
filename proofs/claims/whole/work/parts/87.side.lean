/-- the cell beside, by side -/
def bs_o (c s : Int) : Int := if s = 0 then (if c % 10 = 9 then -1 else c + 1) else if s = 1 then (if c % 10 = 0 then -1 else c - 1) else if s = 2 then (if 90 ≤ c then -1 else c + 10) else (if c < 10 then -1 else c - 10)
theorem fe_beside {c s : Int} {D : td_D} (c1 : 0 ≤ c) (c2 : c < 100) (s1 : 0 ≤ s) (s2 : s < 4) : F_X10_beside c s D = some (bs_o c s, D) := by
  have E : ∀ (x y : Int), -1 ≤ x → x ≤ 10 → (y = 1 ∨ y = -1 ∨ y = 0) → F_X10_beside_47 x (c / 10) y D = some (if x < 0 ∨ 10 ≤ x ∨ c / 10 + y < 0 ∨ 10 ≤ c / 10 + y then -1 else x + 10 * (c / 10 + y), D) := by
    intro x y x1 x2 hy
    unfold F_X10_beside_47
    rw [tw_s (a := c / 10 + y) (by omega) (by omega), tw_s (a := 10 * (c / 10 + y)) (by omega) (by omega), tw_s (a := x + 10 * (c / 10 + y)) (by omega) (by omega)]
    (repeat' split) <;> first | rfl | omega
  unfold F_X10_beside F_X10_beside_22
  rw [tv_rme c1, tv_dv c1 (by omega) (by omega), tw_s (a := c % 10 + 1) (by omega) (by omega), tw_s (a := c % 10 + -1) (by omega) (by omega), tw_s (a := c % 10 + 0) (by omega) (by omega)]
  have s4 : s = 0 ∨ s = 1 ∨ s = 2 ∨ s = 3 := by omega
  rcases s4 with rfl | rfl | rfl | rfl
  · rw [if_pos rfl, if_neg (by decide), if_neg (by decide), E _ _ (by omega) (by omega) (Or.inr (Or.inr rfl))]
    rw [show bs_o c 0 = (if c % 10 = 9 then -1 else c + 1) from rfl]
    congr 2
    (repeat' split) <;> omega
  · rw [if_neg (by decide), if_pos rfl, if_neg (by decide), if_neg (by decide), E _ _ (by omega) (by omega) (Or.inr (Or.inr rfl))]
    rw [show bs_o c 1 = (if c % 10 = 0 then -1 else c - 1) from rfl]
    congr 2
    (repeat' split) <;> omega
  · rw [if_neg (by decide), if_neg (by decide), if_pos rfl, E _ _ (by omega) (by omega) (Or.inl rfl)]
    rw [show bs_o c 2 = (if 90 ≤ c then -1 else c + 10) from rfl]
    congr 2
    (repeat' split) <;> omega
  · rw [if_neg (by decide), if_neg (by decide), if_neg (by decide), if_pos rfl, E _ _ (by omega) (by omega) (Or.inr (Or.inl rfl))]
    rw [show bs_o c 3 = (if c < 10 then -1 else c - 10) from rfl]
    congr 2
    (repeat' split) <;> omega
theorem bs_b {c s : Int} (c1 : 0 ≤ c) (c2 : c < 100) (h : bs_o c s ≠ -1) : 0 ≤ bs_o c s ∧ bs_o c s < 100 ∧ bs_o c s ≠ c := by
  unfold bs_o at *
  (repeat' split) <;> (repeat' split at h) <;> omega
theorem bs_d {c s t : Int} (c1 : 0 ≤ c) (c2 : c < 100) (hs : s = 0 ∨ s = 1 ∨ s = 2 ∨ s = 3) (ht : t = 0 ∨ t = 1 ∨ t = 2 ∨ t = 3) (h : bs_o c s ≠ -1) (e : bs_o c s = bs_o c t) : s = t := by
  rcases hs with rfl | rfl | rfl | rfl <;> rcases ht with rfl | rfl | rfl | rfl <;> first | rfl | (exfalso; unfold bs_o at *; simp (disch := decide) only [if_pos, if_neg, if_true] at h e; (repeat' split at h) <;> (repeat' split at e) <;> omega)
/-- neighbours -/
def nb_o (c b : Nat) : Bool := decide (bs_o c 0 = b ∨ bs_o c 1 = b ∨ bs_o c 2 = b ∨ bs_o c 3 = b)
theorem nb_y {c b : Nat} : nb_o c b = true ↔ (bs_o c 0 = b ∨ bs_o c 1 = b ∨ bs_o c 2 = b ∨ bs_o c 3 = b) := decide_eq_true_iff
/-- those by the first s sides, in an order -/
def nk_o (t0 t1 t2 t3 : Int) (c : Nat) (s : Int) (b : Nat) : Bool := decide ((0 < s ∧ bs_o c t0 = b) ∨ (1 < s ∧ bs_o c t1 = b) ∨ (2 < s ∧ bs_o c t2 = b) ∨ (3 < s ∧ bs_o c t3 = b))
theorem nk_y {t0 t1 t2 t3 : Int} {c b : Nat} {s : Int} : nk_o t0 t1 t2 t3 c s b = true ↔ ((0 < s ∧ bs_o c t0 = b) ∨ (1 < s ∧ bs_o c t1 = b) ∨ (2 < s ∧ bs_o c t2 = b) ∨ (3 < s ∧ bs_o c t3 = b)) := decide_eq_true_iff
/-- a loop over a cell's sides that makes them cheaper -/
theorem fe_cheap {c : Nat} {D0 : td_D} (hc : c < 100) (b25 : ∀ b : Nat, b < 100 → 0 ≤ D0 25 b ∧ D0 25 b ≤ 1000000000) (b24 : ∀ b : Nat, b < 100 → 0 ≤ D0 24 b ∧ D0 24 b ≤ 6) (pc : D0 25 c ≤ 1000000) : ∀ (m : Nat) (s : Int) (D : td_D), 0 ≤ s → s ≤ 4 → 4 - s < m → (∀ x : Nat, x ≠ 25 → D x = D0 x) → (∀ b : Nat, b < 100 → D 25 b = if nk_o 0 1 2 3 c s b = true then tv_min (D0 25 b) (D0 25 c + D0 24 b * 1000 + 1) else D0 25 b) → ∃ D' : td_D, F_X10_cheapen_2 m (c : Int) s D = some (0, D') ∧ (∀ x : Nat, x ≠ 25 → D' x = D0 x) ∧ ∀ b : Nat, b < 100 → D' 25 b = if nb_o c b = true then tv_min (D0 25 b) (D0 25 c + D0 24 b * 1000 + 1) else D0 25 b := by
  intro m
  induction m with
  | zero => intro s D q1 q2 q3; omega
  | succ m ih =>
    intro s D q1 q2 q3 fD hD
    unfold F_X10_cheapen_2
    by_cases z : 4 ≤ s
    · rw [if_pos z]
      refine ⟨D, rfl, fD, fun b hb => ?_⟩
      rw [hD b hb]
      have e : nk_o 0 1 2 3 c s b = true ↔ nb_o c b = true := by
        rw [nk_y, nb_y]
        constructor <;> intro h <;> omega
      by_cases y : nb_o c b = true
      · rw [if_pos y, if_pos (e.mpr y)]
      · rw [if_neg y, if_neg (fun w => y (e.mp w))]
    · have s4 : s = 0 ∨ s = 1 ∨ s = 2 ∨ s = 3 := by omega
      have nx : ∀ b : Nat, nk_o 0 1 2 3 c (s + 1) b = true ↔ (nk_o 0 1 2 3 c s b = true ∨ bs_o c s = (b : Int)) := by
        intro b
        rw [nk_y, nk_y]
        rcases s4 with rfl | rfl | rfl | rfl <;> (constructor <;> intro h <;> omega)
      rw [if_neg z, fe_beside (by omega) (by omega) q1 (by omega), td_bs, tw_s (a := s + 1) (by omega) (by omega)]
      by_cases r1 : bs_o c s = -1
      · rw [if_pos r1]
        refine ih (s + 1) D (by omega) (by omega) (by omega) fD (fun b hb => ?_)
        rw [hD b hb]
        have e : nk_o 0 1 2 3 c (s + 1) b = true ↔ nk_o 0 1 2 3 c s b = true := by
          rw [nx b]
          constructor
          · rintro (h | h)
            · exact h
            · omega
          · exact Or.inl
        by_cases y : nk_o 0 1 2 3 c s b = true
        · rw [if_pos y, if_pos (e.mpr y)]
        · rw [if_neg y, if_neg (fun w => y (e.mp w))]
      · obtain ⟨g1, g2, g3⟩ := bs_b (c := (c : Int)) (by omega) (by omega) r1
        have un : ∀ b : Nat, (b : Int) = bs_o c s → ¬ nk_o 0 1 2 3 c s b = true := by
          intro b hb w
          rw [nk_y] at w
          rw [hb] at w
          rcases w with ⟨w1, w2⟩ | ⟨w1, w2⟩ | ⟨w1, w2⟩ | ⟨w1, w2⟩
          · have d := bs_d (c := (c : Int)) (by omega) (by omega) s4 (Or.inl rfl) r1 w2.symm; omega
          · have d := bs_d (c := (c : Int)) (by omega) (by omega) s4 (Or.inr (Or.inl rfl)) r1 w2.symm; omega
          · have d := bs_d (c := (c : Int)) (by omega) (by omega) s4 (Or.inr (Or.inr (Or.inl rfl))) r1 w2.symm; omega
          · have d := bs_d (c := (c : Int)) (by omega) (by omega) s4 (Or.inr (Or.inr (Or.inr rfl))) r1 w2.symm; omega
        have uc : ¬ nk_o 0 1 2 3 c s c = true := by
          intro w
          rw [nk_y] at w
          have k := fun t h => (bs_b (c := (c : Int)) (s := t) (by omega) (by omega) h).2.2
          rcases w with ⟨w1, w2⟩ | ⟨w1, w2⟩ | ⟨w1, w2⟩ | ⟨w1, w2⟩
          · exact k 0 (by omega) w2
          · exact k 1 (by omega) w2
          · exact k 2 (by omega) w2
          · exact k 3 (by omega) w2
        obtain ⟨b0, hb0⟩ : ∃ b0 : Nat, (b0 : Int) = bs_o c s := ⟨(bs_o c s).toNat, by omega⟩
        have e1 : D 25 b0 = D0 25 b0 := by rw [hD b0 (by omega), if_neg (un b0 hb0)]
        have e2 : D 25 c = D0 25 c := by rw [hD c hc, if_neg uc]
        have v24 := b24 b0 (by omega)
        have v25 := b25 c hc
        rw [if_neg r1, ← hb0, if_pos (by omega), if_pos (by omega), td_ls, Int.toNat_natCast, Int.toNat_natCast, e1, e2, fD 24 (by decide), tw_s (a := D0 24 b0 * 1000) (by omega) (by omega), tw_s (a := D0 25 c + D0 24 b0 * 1000) (by omega) (by omega), tw_s (a := D0 25 c + D0 24 b0 * 1000 + 1) (by omega) (by omega)]
        refine ih (s + 1) _ (by omega) (by omega) (by omega) (fun x hx => (tu_row hx).trans (fD x hx)) (fun b hb => ?_)
        rw [tu_at]
        unfold tv_up
        by_cases y : b = b0
        · rw [if_pos y, if_pos ((nx b).mpr (Or.inr (by omega))), y]
        · rw [if_neg y, hD b hb]
          have e : nk_o 0 1 2 3 c (s + 1) b = true ↔ nk_o 0 1 2 3 c s b = true := by
            rw [nx b]
            constructor
            · rintro (h | h)
              · exact h
              · omega
            · exact Or.inl
          by_cases y2 : nk_o 0 1 2 3 c s b = true
          · rw [if_pos y2, if_pos (e.mpr y2)]
          · rw [if_neg y2, if_neg (fun w => y2 (e.mp w))]
/-- the first of the cheapest open ones -/
def fo_min (P O : Nat → Int) (r : Int) : Prop := (r = -1 ∧ ∀ b : Nat, b < 100 → O b ≠ 0) ∨ (0 ≤ r ∧ r < 100 ∧ O r.toNat = 0 ∧ ∀ b : Nat, b < 100 → O b = 0 → P r.toNat ≤ P b ∧ ((b : Int) < r → P r.toNat < P b))
theorem fo_u {P O : Nat → Int} {r q : Int} (h1 : fo_min P O r) (h2 : fo_min P O q) : r = q := by
  rcases h1 with ⟨a1, a2⟩ | ⟨a1, a2, a3, a4⟩
  · rcases h2 with ⟨b1, b2⟩ | ⟨b1, b2, b3, b4⟩
    · omega
    · exact (a2 q.toNat (by omega) b3).elim
  · rcases h2 with ⟨b1, b2⟩ | ⟨b1, b2, b3, b4⟩
    · exact (b2 r.toNat (by omega) a3).elim
    · have x := a4 q.toNat (by omega) b3
      have y := b4 r.toNat (by omega) a3
      omega
theorem fe_cho {D : td_D} : ∀ (m : Nat) (r v : Int), 0 ≤ v → v ≤ 100 → 100 - v < m → ((r = -1 ∧ ∀ b : Nat, (b : Int) < v → D 26 b ≠ 0) ∨ (0 ≤ r ∧ r < v ∧ D 26 r.toNat = 0 ∧ ∀ b : Nat, (b : Int) < v → D 26 b = 0 → D 25 r.toNat ≤ D 25 b ∧ ((b : Int) < r → D 25 r.toNat < D 25 b))) → ∃ q : Int, F_X10_cheapestOpen_4 m r v D = some (q, D) ∧ fo_min (D 25) (D 26) q := by
  intro m
  induction m with
  | zero => intro r v q1 q2 q3; omega
  | succ m ih =>
    intro r v q1 q2 q3 h
    unfold F_X10_cheapestOpen_4
    by_cases c : 100 ≤ v
    · rw [if_pos c]
      refine ⟨r, rfl, ?_⟩
      rcases h with ⟨a1, a2⟩ | ⟨a1, a2, a3, a4⟩
      · exact Or.inl ⟨a1, fun b hb => a2 b (by omega)⟩
      · exact Or.inr ⟨a1, by omega, a3, fun b hb => a4 b (by omega)⟩
    · rw [if_neg c, if_pos (by omega), tw_s (a := v + 1) (by omega) (by omega)]
      have vb : ∀ b : Nat, (b : Int) < v + 1 → (b : Int) < v ∨ b = v.toNat := fun b hb => by omega
      by_cases o : D 26 v.toNat = 0
      · rw [if_pos o]
        rcases h with ⟨a1, a2⟩ | ⟨a1, a2, a3, a4⟩
        · rw [if_pos a1]
          refine ih v (v + 1) (by omega) (by omega) (by omega) (Or.inr ⟨q1, by omega, o, fun b hb hb2 => ?_⟩)
          rcases vb b hb with w | w
          · exact (a2 b w hb2).elim
          · rw [w]
            exact ⟨Int.le_refl _, fun z => by omega⟩
        · rw [if_neg (show ¬ r = -1 by omega), if_pos (by omega)]
          by_cases l : D 25 r.toNat ≤ D 25 v.toNat
          · rw [if_pos l]
            refine ih r (v + 1) (by omega) (by omega) (by omega) (Or.inr ⟨a1, by omega, a3, fun b hb hb2 => ?_⟩)
            rcases vb b hb with w | w
            · exact a4 b w hb2
            · rw [w]
              exact ⟨l, fun z => by omega⟩
          · rw [if_neg l]
            refine ih v (v + 1) (by omega) (by omega) (by omega) (Or.inr ⟨q1, by omega, o, fun b hb hb2 => ?_⟩)
            rcases vb b hb with w | w
            · have x := a4 b w hb2
              exact ⟨by omega, fun z => by omega⟩
            · rw [w]
              exact ⟨Int.le_refl _, fun z => by omega⟩
      · rw [if_neg o]
        refine ih r (v + 1) (by omega) (by omega) (by omega) ?_
        rcases h with ⟨a1, a2⟩ | ⟨a1, a2, a3, a4⟩
        · refine Or.inl ⟨a1, fun b hb => ?_⟩
          rcases vb b hb with w | w
          · exact a2 b w
          · rw [w]; exact o
        · refine Or.inr ⟨a1, by omega, a3, fun b hb hb2 => ?_⟩
          rcases vb b hb with w | w
          · exact a4 b w hb2
          · rw [w] at hb2
            exact (o hb2).elim
