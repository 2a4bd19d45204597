theorem lk_seg {q a b len : Nat} {D0 E0 : td_D} (hq : q = 12 ∨ q = 16) (sz : D0 q 3 ≤ 128) (ha : ((a + len : Nat) : Int) < D0 q 3) (hb : b + len ≤ 130) (nm : ∀ i : Nat, i < 6 → E0 19 i = D0 20 i) (sg : p_seg (D0 (q + 1)) (D0 (q + 2)) a (E0 14) (E0 15) b len) :
    ∃ D' E' : td_D, (∀ m : Nat, F_X1_workOut_4 (m + len) q 0 (a : Int) D0 = F_X1_workOut_4 m q 1 ((a + len : Nat) : Int) D') ∧ (∀ m : Nat, F_X12_worked_12 (m + len + 1) 0 ((b + len : Nat) : Int) 0 (b : Int) E0 = some (E' 20 0, E')) ∧ E' 20 0 = D' (q + 3) 0 ∧ (∀ r : Nat, r ≠ q + 3 → D' r = D0 r) ∧ ∀ r : Nat, r ≠ 20 → E' r = E0 r := by
  obtain ⟨s1, h, h0, h1, s2⟩ := sg
  have hk : ∀ k : Nat, k ≤ len → h k ≤ k := by
    intro k
    induction k with
    | zero => intro _; omega
    | succ k ih =>
      intro z
      have i := ih (by omega)
      have s := s2 k (by omega)
      omega
  have q20 : (20 : Nat) ≠ q + 3 := by omega
  have main : ∀ (j k : Nat) (D E : td_D), k + j = len → (∀ r : Nat, r ≠ q + 3 → D r = D0 r) → (∀ r : Nat, r ≠ 20 → E r = E0 r) → (∀ i : Nat, i < h k → E 20 i = D (q + 3) i) → ∃ D' E' : td_D, (∀ m : Nat, F_X1_workOut_4 (m + j) q (h k : Int) ((a + k : Nat) : Int) D = F_X1_workOut_4 m q 1 ((a + len : Nat) : Int) D') ∧ (∀ m : Nat, F_X12_worked_12 (m + j + 1) 0 ((b + len : Nat) : Int) (h k : Int) ((b + k : Nat) : Int) E = some (E' 20 0, E')) ∧ E' 20 0 = D' (q + 3) 0 ∧ (∀ r : Nat, r ≠ q + 3 → D' r = D0 r) ∧ ∀ r : Nat, r ≠ 20 → E' r = E0 r := by
    intro j
    induction j with
    | zero =>
      intro k D E kj fD fE pl
      have kl : k = len := by omega
      subst kl
      refine ⟨D, E, fun m => ?_, fun m => ?_, pl 0 (by omega), fD, fE⟩
      · rw [h1]; rfl
      · unfold F_X12_worked_12
        rw [tw_s (a := 130 * 0) (by omega) (by omega), tw_s (by omega) (by omega), if_pos (by omega)]
        rfl
    | succ j ih =>
      intro k D E kj fD fE pl
      have hk1 := hk k (by omega)
      have e3 : D q 3 = D0 q 3 := by rw [fD q (by omega)]
      obtain ⟨D1, E1, w1, w2, w3, w4, w5⟩ := lk_step (A := a + k) (B := b + k) (H := h k) (H' := h (k + 1)) (D := D) (E := E) hq (by rw [e3]; exact sz) (by rw [e3]; omega) (by omega) (by omega) (fun i hi => by rw [fE 19 (by decide), fD 20 q20]; exact nm i hi) pl (by rw [fD (q + 1) (by omega), fD (q + 2) (by omega), fE 14 (by decide), fE 15 (by decide)]; exact s1 k (by omega)) (by rw [fE 14 (by decide)]; exact s2 k (by omega))
      obtain ⟨D', E', v1, v2, v3, v4, v5⟩ := ih (k + 1) D1 E1 (by omega) (fun r hr => (w4 r hr).trans (fD r hr)) (fun r hr => (w5 r hr).trans (fE r hr)) w3
      refine ⟨D', E', fun m => ?_, fun m => ?_, v3, v4, v5⟩
      · rw [show m + (j + 1) = m + j + 1 by omega, w1 (m + j), show ((a + k : Nat) : Int) + 1 = ((a + (k + 1) : Nat) : Int) by omega]
        exact v1 m
      · rw [show m + (j + 1) + 1 = m + j + 1 + 1 by omega, w2 (m + j + 1) _ (by omega) (by omega), show ((b + k : Nat) : Int) + 1 = ((b + (k + 1) : Nat) : Int) by omega]
        exact v2 m
  have m0 := main len 0 D0 E0 (by omega) (fun _ _ => rfl) (fun _ _ => rfl) (fun i hi => by omega)
  rw [h0] at m0
  exact m0
theorem fm_worked {b len : Nat} {E E' : td_D} {r : Int} (hb : b + len ≤ 130) (h : ∀ m : Nat, F_X12_worked_12 (m + len + 1) 0 ((b + len : Nat) : Int) 0 (b : Int) E = some (r, E')) : F_X12_worked 0 (b : Int) ((b + len : Nat) : Int) E = some (r, E') := by
  unfold F_X12_worked
  rw [tw_s (a := 130 * 0) (by omega) (by omega), tw_s (by omega) (by omega), show 130 * 0 + (b : Int) = (b : Int) by omega, show tf_N = (4999 - len) + len + 1 by unfold tf_N; omega]
  exact h _
/-- the answer -/
theorem fe_answer {q A m : Nat} {D : td_D} (hq : q = 12 ∨ q = 16) (sz : D q 3 ≤ 128) (hA : (A : Int) < D q 3) (h5 : D (q + 1) A = 5) : F_X1_workOut_4 (m + 1) q 1 (A : Int) D = some (D (q + 3) 0, D) := by
  obtain ⟨t0, t1, t2⟩ := tr_q hq
  have a128 : 0 ≤ (A : Int) ∧ (A : Int) < ((128 : Nat) : Int) := by omega
  have sa : ¬ D q 3 ≤ (A : Int) := by omega
  conv =>
    lhs
    unfold F_X1_workOut_4 F_X1_workOut_32 F_X1_workOut_225
  rw [t0, t1, t2]
  simp only [if_neg sa, if_pos a128, Int.toNat_natCast, if_neg (show ¬ D (q + 1) A = 1 by omega), if_neg (show ¬ D (q + 1) A = 2 by omega), if_pos (show (1 : Int) ≤ 1 by decide), if_pos h5]
  rw [tw_s (a := 1 - 1) (by omega) (by omega), if_pos (by decide)]
  rfl
theorem fe_skip {q A m N : Nat} {D : td_D} (hq : q = 12 ∨ q = 16) (sz : D q 3 ≤ 128) (hA : (A : Int) < D q 3) (h6 : D (q + 1) A = 6) (hv : D (q + 2) A = (N : Int)) (hN : A < N) (hN2 : N ≤ 1000) : F_X1_workOut_4 (m + 1) q 1 (A : Int) D = F_X1_workOut_4 m q 0 (if D (q + 3) 0 = 0 then (N : Int) else ((A + 1 : Nat) : Int)) D := by
  obtain ⟨t0, t1, t2⟩ := tr_q hq
  have a128 : 0 ≤ (A : Int) ∧ (A : Int) < ((128 : Nat) : Int) := by omega
  have sa : ¬ D q 3 ≤ (A : Int) := by omega
  conv =>
    lhs
    unfold F_X1_workOut_4 F_X1_workOut_32 F_X1_workOut_225
  rw [t0, t1, t2]
  simp only [if_neg sa, if_pos a128, Int.toNat_natCast, if_neg (show ¬ D (q + 1) A = 1 by omega), if_neg (show ¬ D (q + 1) A = 2 by omega), if_pos (show (1 : Int) ≤ 1 by decide), if_neg (show ¬ D (q + 1) A = 5 by omega), if_pos h6, hv]
  rw [tw_s (a := 1 + -1) (by omega) (by omega), if_pos (by decide), tw_s (a := (N : Int) - 1) (by omega) (by omega), tw_s (a := (A : Int) + 1) (by omega) (by omega), show Int.toNat (1 + -1) = 0 from rfl, show (1 : Int) + -1 = 0 from rfl]
  by_cases z : D (q + 3) 0 = 0
  · rw [if_pos z, if_pos z]
    have e : tv_w (tv_max (A : Int) ((N : Int) - 1) + 1) = (N : Int) := by
      unfold tv_max
      by_cases y : (A : Int) < (N : Int) - 1
      · rw [if_pos y, tw_s (by omega) (by omega)]
        omega
      · rw [if_neg y, tw_s (by omega) (by omega)]
        omega
    rw [e]
  · rw [if_neg z, if_neg z, show ((A + 1 : Nat) : Int) = (A : Int) + 1 by omega]
theorem lk_gives7 {q : Nat} {D0 E0 : td_D} (hq : q = 12 ∨ q = 16) (hc : p_code (D0 q 3) (D0 (q + 1)) (D0 (q + 2)) (E0 14) (E0 15) (E0 16) (E0 17) (E0 18)) (nm : ∀ i : Nat, i < 6 → E0 19 i = D0 20 i) : ∃ (r : Int) (D' E' : td_D), F_X1_workOut q D0 = some (r, D') ∧ F_X12_gives 0 E0 = some (r, E') ∧ (∀ r : Nat, r ≠ q + 3 → D' r = D0 r) ∧ ∀ r : Nat, r ≠ 20 → E' r = E0 r := by
  obtain ⟨n1, n2, m1, m2, po, fi, ti, po0, fi0, poL, ln, hl⟩ := hc
  have q20 : (20 : Nat) ≠ q + 3 := by omega
  have mono : ∀ j l : Nat, (l : Int) + j = E0 16 0 → po l + j ≤ (D0 q 3).toNat := by
    intro j
    induction j with
    | zero => intro l h; rw [← poL, show l = (E0 16 0).toNat by omega]; omega
    | succ j ih =>
      intro l h
      have i := ih (l + 1) (by omega)
      have c := hl l (by omega)
      omega
  have main : ∀ (j l : Nat) (D E : td_D), (l : Int) + j = E0 16 0 → (∀ r : Nat, r ≠ q + 3 → D r = D0 r) → (∀ r : Nat, r ≠ 20 → E r = E0 r) → ∃ (r : Int) (D' E' : td_D) (K : Nat), K + po l ≤ 129 ∧ (∀ m : Nat, F_X1_workOut_4 (m + K) q 0 (po l : Int) D = some (r, D')) ∧ (∀ m : Nat, F_X12_gives_7 (m + j + 1) 0 (fi l : Int) (l : Int) E = some (r, E')) ∧ (∀ r : Nat, r ≠ q + 3 → D' r = D0 r) ∧ ∀ r : Nat, r ≠ 20 → E' r = E0 r := by
    intro j
    induction j with
    | zero =>
      intro l D E lj fD fE
      have e3 : D q 3 = D0 q 3 := by rw [fD q (by omega)]
      have ll : l = (E0 16 0).toNat := by omega
      have pl : po l = (D0 q 3).toNat := by rw [ll]; exact poL
      refine ⟨0, D, E, 1, by omega, fun m => ?_, fun m => ?_, fD, fE⟩
      · unfold F_X1_workOut_4
        rw [e3, if_pos (by omega)]
      · unfold F_X12_gives_7
        rw [if_pos (by decide), fE 16 (by decide), tw_s (a := 61 * 0) (by omega) (by omega), tw_s (by
          show _ ≤ 61 * 0 + E0 16 0
          omega) (by
          show 61 * 0 + E0 16 0 ≤ _
          omega), if_pos (by
          show 61 * 0 + E0 16 0 ≤ _
          omega)]
    | succ j ih =>
      intro l D E lj fD fE
      have e3 : D q 3 = D0 q 3 := by rw [fD q (by omega)]
      have mo := mono (j + 1) l (by omega)
      have mo2 := mono j (l + 1) (by omega)
      obtain ⟨g1, g2, g3, g4, g5⟩ := ln l (by omega)
      have nm' : ∀ (D E : td_D), (∀ r : Nat, r ≠ q + 3 → D r = D0 r) → (∀ r : Nat, r ≠ 20 → E r = E0 r) → ∀ i : Nat, i < 6 → E 19 i = D 20 i := fun D E fD fE i hi => by
        rw [fE 19 (by decide), fD 20 q20]
        exact nm i hi
      have sg' : ∀ (D E : td_D), (∀ r : Nat, r ≠ q + 3 → D r = D0 r) → (∀ r : Nat, r ≠ 20 → E r = E0 r) → ∀ a b len : Nat, p_seg (D0 (q + 1)) (D0 (q + 2)) a (E0 14) (E0 15) b len → p_seg (D (q + 1)) (D (q + 2)) a (E 14) (E 15) b len := fun D E fD fE a b len h => by
        rw [fD (q + 1) (by omega), fD (q + 2) (by omega), fE 14 (by decide), fE 15 (by decide)]
        exact h
      have G : ∀ m : Nat, F_X12_gives_7 (m + (j + 1) + 1) 0 (fi l : Int) (l : Int) E = if (ti l : Int) = (fi l : Int) then (td_b (F_X12_worked 0 (ti l : Int) (fi (l + 1) : Int) E) fun r3 D4 => some (r3, D4)) else (td_b (F_X12_worked 0 (fi l : Int) (ti l : Int) E) fun r5 D6 => if r5 = 0 then F_X12_gives_7 (m + j + 1) 0 (D6 18 l) ((l : Int) + 1) D6 else (td_b (F_X12_worked 0 (D6 17 l) (D6 18 l) D6) fun r7 D8 => some (r7, D8))) := by
        intro m
        conv =>
          lhs
          unfold F_X12_gives_7
        rw [if_pos (by decide), fE 16 (by decide), tw_s (a := 61 * 0) (by omega) (by omega), if_neg (by
          show ¬ tv_w (61 * 0 + E0 16 0) ≤ _
          rw [tw_s (by omega) (by omega)]
          omega), if_pos (by omega), Int.toNat_natCast, fE 17 (by decide), fE 18 (by decide), g4, g5, tw_s (a := (l : Int) + 1) (by omega) (by omega)]
        rfl
      rcases hl l (by omega) with ⟨c1, c2, c3, c4⟩ | ⟨c1, c2, c3, c4, c5, c6, c7⟩
      · obtain ⟨D1, E1, w1, w2, w3, w4, w5⟩ := lk_seg (D0 := D) (E0 := E) hq (by rw [e3]; exact n2) (by rw [e3]; omega) (by omega) (nm' D E fD fE) (sg' D E fD fE _ _ _ c2)
        have fD1 : ∀ r : Nat, r ≠ q + 3 → D1 r = D0 r := fun r hr => (w4 r hr).trans (fD r hr)
        have e31 : D1 q 3 = D0 q 3 := by rw [fD1 q (by omega)]
        have W := fm_worked (by omega) w2
        rw [show fi l + (fi (l + 1) - fi l) = fi (l + 1) by omega] at W
        refine ⟨D1 (q + 3) 0, D1, E1, fi (l + 1) - fi l + 1, by omega, fun m => ?_, fun m => ?_, fD1, fun r hr => (w5 r hr).trans (fE r hr)⟩
        · rw [show m + (fi (l + 1) - fi l + 1) = m + 1 + (fi (l + 1) - fi l) by omega, w1 (m + 1)]
          exact fe_answer hq (by rw [e31]; exact n2) (by rw [e31]; omega) (by rw [fD1 (q + 1) (by omega)]; exact c3)
        · rw [G m, if_pos (by omega), ← c1, W, td_bs, w3]
      · obtain ⟨D1, E1, w1, w2, w3, w4, w5⟩ := lk_seg (D0 := D) (E0 := E) hq (by rw [e3]; exact n2) (by rw [e3]; omega) (by omega) (nm' D E fD fE) (sg' D E fD fE _ _ _ c2)
        have fD1 : ∀ r : Nat, r ≠ q + 3 → D1 r = D0 r := fun r hr => (w4 r hr).trans (fD r hr)
        have fE1 : ∀ r : Nat, r ≠ 20 → E1 r = E0 r := fun r hr => (w5 r hr).trans (fE r hr)
        have e31 : D1 q 3 = D0 q 3 := by rw [fD1 q (by omega)]
        have W := fm_worked (by omega) w2
        rw [show fi l + (ti l - fi l) = ti l by omega] at W
        have sk := fun m => fe_skip (q := q) (A := po l + (ti l - fi l)) (m := m) (N := po (l + 1)) (D := D1) hq (by rw [e31]; exact n2) (by rw [e31]; omega) (by rw [fD1 (q + 1) (by omega)]; exact c3) (by rw [fD1 (q + 2) (by omega)]; exact c4) (by omega) (by omega)
        have t18 : E1 18 l = (fi (l + 1) : Int) := by rw [fE1 18 (by decide)]; exact g5
        have t17 : E1 17 l = (ti l : Int) := by rw [fE1 17 (by decide)]; exact g4
        by_cases z : D1 (q + 3) 0 = 0
        · obtain ⟨r, D', E', K, k1, k2, k3, k4, k5⟩ := ih (l + 1) D1 E1 (by omega) fD1 fE1
          refine ⟨r, D', E', ti l - fi l + 1 + K, by omega, fun m => ?_, fun m => ?_, k4, k5⟩
          · rw [show m + (ti l - fi l + 1 + K) = m + K + 1 + (ti l - fi l) by omega, w1, sk, if_pos z]
            exact k2 m
          · rw [G m, if_neg (by omega), W, td_bs, if_pos (by rw [w3]; exact z), t18, show (l : Int) + 1 = ((l + 1 : Nat) : Int) by omega]
            exact k3 m
        · obtain ⟨D2, E2, x1, x2, x3, x4, x5⟩ := lk_seg (D0 := D1) (E0 := E1) hq (by rw [e31]; exact n2) (by rw [e31]; omega) (by omega) (nm' D1 E1 fD1 fE1) (sg' D1 E1 fD1 fE1 _ _ _ c5)
          have fD2 : ∀ r : Nat, r ≠ q + 3 → D2 r = D0 r := fun r hr => (x4 r hr).trans (fD1 r hr)
          have e32 : D2 q 3 = D0 q 3 := by rw [fD2 q (by omega)]
          have W2 := fm_worked (by omega) x2
          rw [show ti l + (fi (l + 1) - ti l) = fi (l + 1) by omega] at W2
          refine ⟨D2 (q + 3) 0, D2, E2, ti l - fi l + 1 + (fi (l + 1) - ti l) + 1, by omega, fun m => ?_, fun m => ?_, fD2, fun r hr => (x5 r hr).trans (fE1 r hr)⟩
          · rw [show m + (ti l - fi l + 1 + (fi (l + 1) - ti l) + 1) = m + 1 + (fi (l + 1) - ti l) + 1 + (ti l - fi l) by omega, w1, sk, if_neg z, x1]
            have A : po l + (ti l - fi l) + 1 + (fi (l + 1) - ti l) = po l + (fi (l + 1) - fi l) + 1 := by omega
            rw [A]
            exact fe_answer hq (by rw [e32]; exact n2) (by rw [e32]; omega) (by rw [fD2 (q + 1) (by omega)]; exact c6)
          · rw [G m, if_neg (by omega), W, td_bs, if_neg (by rw [w3]; exact z), t17, t18, W2, td_bs, x3]
  obtain ⟨r, D', E', K, k1, k2, k3, k4, k5⟩ := main (E0 16 0).toNat 0 D0 E0 (by omega) (fun _ _ => rfl) (fun _ _ => rfl)
  refine ⟨r, D', E', ?_, ?_, k4, k5⟩
  · unfold F_X1_workOut
    have z := k2 (tf_N - K)
    rw [po0, show tf_N - K + K = tf_N by unfold tf_N; omega] at z
    exact z
  · unfold F_X12_gives
    have z := k3 (4999 - (E0 16 0).toNat)
    rw [fi0, show 4999 - (E0 16 0).toNat + (E0 16 0).toNat + 1 = tf_N by unfold tf_N; omega] at z
    rw [tw_s (a := 61 * 0) (by omega) (by omega)]
    exact z
