theorem lw_law {Dc Dm Dc' Dm' : td_D} (hR : lw_R Dc Dm) (c : ∀ r : Nat, (r < 10 ∧ r ≠ 1) ∨ 18 < r → Dc' r = Dc r) (m : ∀ r : Nat, (r < 13 ∧ r ≠ 1) ∨ 18 < r → Dm' r = Dm r) (mj : ∀ j : Nat, j ≠ 18 → j ≠ 19 → j ≠ 20 → j ≠ 21 → j ≠ 22 → j ≠ 30 → Dm' 1 j = Dm 1 j) (t1 : Dc' 10 1 = 0) (t2 : Dm' 1 18 = 0) (law : p_law (Dc' 1 2) (Dc' 1 3) (Dc' 12 3) (Dc' 16 3) (Dc' 13) (Dc' 14) (Dc' 17) (Dc' 18) (Dm' 1 30) (Dm' 14) (Dm' 15) (Dm' 16) (Dm' 17) (Dm' 18)) : lw_R Dc' Dm' := by
  obtain ⟨h1, h2, h3, h4, h5, h6, h7, h8, h9⟩ := hR
  have tape : p_tape (Dc' 10 1) (Dc' 11) (Dm' 1 18) (Dm' 13) := ⟨⟨by omega, by omega, by omega⟩, fun i hi => by omega⟩
  have k := fun (r : Nat) (h : (decide ((r < 10 ∧ r ≠ 1) ∨ 18 < r)) = true) => c r (of_decide_eq_true h)
  have k2 := fun (r : Nat) (h : (decide ((r < 13 ∧ r ≠ 1) ∨ 18 < r)) = true) => m r (of_decide_eq_true h)
  have k3 := fun (j : Nat) (h : (decide (j ≠ 18 ∧ j ≠ 19 ∧ j ≠ 20 ∧ j ≠ 21 ∧ j ≠ 22 ∧ j ≠ 30)) = true) => mj j (of_decide_eq_true h).1 (of_decide_eq_true h).2.1 (of_decide_eq_true h).2.2.1 (of_decide_eq_true h).2.2.2.1 (of_decide_eq_true h).2.2.2.2.1 (of_decide_eq_true h).2.2.2.2.2
  refine ⟨?_, ?_, tape, law, ?_, ?_, ?_, ?_, ?_⟩
  · rw [k 2 rfl, k 3 rfl, k 4 rfl, k 6 rfl, k 7 rfl, k 8 rfl, k 9 rfl, k2 2 rfl, k2 3 rfl, k2 4 rfl, k2 5 rfl, k2 6 rfl, k2 7 rfl, k3 1 rfl, k3 3 rfl, k3 6 rfl]
    exact h1
  · rw [k 2 rfl, k2 8 rfl]
    exact h2
  · rw [k 2 rfl, k 7 rfl, k 8 rfl, k 32 rfl, k 33 rfl, k 34 rfl, k 35 rfl, k 36 rfl, k3 11 rfl, k3 12 rfl, k2 9 rfl, k2 10 rfl, k2 11 rfl, k2 12 rfl]
    exact h5
  · rw [k 42 rfl, k2 31 rfl]
    exact h6
  · rw [k 2 rfl, k 37 rfl, k 38 rfl, k 40 rfl, k 41 rfl, k3 44 rfl, k3 45 rfl, k3 46 rfl, k2 32 rfl, k2 33 rfl, k2 34 rfl]
    exact h7
  · rw [k 43 rfl, k 44 rfl, k 45 rfl, k3 50 rfl, k2 35 rfl, k3 52 rfl, k2 36 rfl]
    exact h8
  · rw [k 43 rfl, k 47 rfl, k 48 rfl, k 49 rfl, k 50 rfl, k 51 rfl, k 52 rfl, k 53 rfl, k 54 rfl, k 55 rfl, k 56 rfl, k 57 rfl, k 58 rfl, k2 37 rfl, k2 38 rfl, k2 39 rfl]
    exact h9
/-- the whole text -/
theorem j_into {q : Nat} {Dc Dm : td_D} (hq : q = 12 ∨ q = 16) (ht : p_tape (Dc 10 1) (Dc 11) (Dm 1 18) (Dm 13)) : ∃ (D D0 E E0 : td_D), (∀ r : Nat, r ≠ 10 → r ≠ q → D0 r = Dc r) ∧ (∀ r : Nat, r ≠ 1 → r ≠ 16 → E0 r = Dm r) ∧ (∀ j : Nat, j ≠ 19 → j ≠ 20 → j ≠ 21 → j ≠ 22 → E0 1 j = Dm 1 j) ∧ E0 16 0 = Dm 16 0 ∧ F_X12_readText 0 Dm = F_X12_readText_86 0 E ∧ (((∃ L : Nat, jt_o q D0 E0 D E L) ∧ F_X9_readInto q Dc = some (-1, D)) ∨ (jz_o q D0 E0 D E ∧ F_X9_readInto q Dc = some (D 10 2, D))) := by
  obtain ⟨⟨t1, t2, t3⟩, t4⟩ := ht
  unfold F_X9_readInto F_X12_readText
  simp only [tb_l]
  generalize hD : td_upd (td_upd (td_upd Dc 10 2 0) 10 3 0) q 3 0 = D0
  generalize hE : td_upd (td_upd (td_upd (td_upd (td_upd Dm 1 19 0) 1 20 (-1)) 1 21 0) 1 22 0) 16 (Int.toNat 1) 0 = E0
  have d1 : ∀ r : Nat, r ≠ 10 → r ≠ q → D0 r = Dc r := fun r a b => by rw [← hD, tu_row b, tu_row a, tu_row a]
  have d10 : D0 10 = tv_up (tv_up (Dc 10) 2 0) 3 0 := by rw [← hD, tu_row (by omega), tu_at, tu_at]
  have dq : D0 q 3 = 0 := by rw [← hD, tu_at, tu_same]
  have e1 : ∀ r : Nat, r ≠ 1 → r ≠ 16 → E0 r = Dm r := fun r a b => by rw [← hE, tu_row b, tu_row a, tu_row a, tu_row a, tu_row a]
  have e10 : E0 1 = tv_up (tv_up (tv_up (tv_up (Dm 1) 19 0) 20 (-1)) 21 0) 22 0 := by rw [← hE, tu_row (by decide), tu_at, tu_at, tu_at, tu_at]
  have e16 : E0 16 = tv_up (Dm 16) 1 0 := by rw [← hE, tu_at, tu_row (by decide), tu_row (by decide), tu_row (by decide), tu_row (by decide)]; rfl
  have z2 : D0 10 2 = 0 := by rw [d10, tu_ne (by decide), tu_same]
  have z3 : D0 10 3 = 0 := by rw [d10, tu_same]
  have z1 : D0 10 1 = Dc 10 1 := by rw [d10, tu_ne (by decide), tu_ne (by decide)]
  have y19 : E0 1 19 = 0 := by rw [e10, tu_ne (by decide), tu_ne (by decide), tu_ne (by decide), tu_same]
  have y20 : E0 1 20 = -1 := by rw [e10, tu_ne (by decide), tu_ne (by decide), tu_same]
  have y21 : E0 1 21 = 0 := by rw [e10, tu_ne (by decide), tu_same]
  have y22 : E0 1 22 = 0 := by rw [e10, tu_same]
  have ej : ∀ j : Nat, j ≠ 19 → j ≠ 20 → j ≠ 21 → j ≠ 22 → E0 1 j = Dm 1 j := fun j a b c d => by rw [e10, tu_ne d, tu_ne c, tu_ne b, tu_ne a]
  have y16 : E0 16 1 = 0 := by rw [e16, tu_same]
  have ji : ji_o q D0 E0 := by
    refine ⟨⟨by omega, by omega, by omega, z3⟩, ⟨?_, by omega, y20⟩, ⟨by omega, by omega⟩, fun i hi => ?_⟩
    · rw [ej 18 (by decide) (by decide) (by decide) (by decide)]; omega
    · rw [z1] at hi
      rw [e1 13 (by decide) (by decide), d1 11 (by decide) (by omega)]
      exact t4 i hi
  obtain ⟨x, y, D1, E1, u1, u2, u3⟩ := j_line (L := 0) hq ji (by omega) (by omega) y21 y16 (by omega)
  rw [u1, tb_s, u2, tb_s]
  have st : ((∃ L : Nat, jt_o q D0 E0 D1 E1 L) ∨ jx_o q D0 E0 D1 E1) ∧ 0 ≤ D1 10 2 := by
    rcases u3 with hy | hx
    · have m0 : jm_o q D0 E0 0 (fun _ => 0) (fun _ => 0) (fun _ => 0) := ⟨rfl, rfl, by omega, by omega, fun l hl => by omega⟩
      obtain ⟨po', fi', ti', hm6⟩ := jm_add m0 hy
      obtain ⟨y1, y2, y3, y4, y5, y6, y7, y8, -⟩ := hy
      exact ⟨Or.inl ⟨1, y1, y2, y3, y4, by omega, by omega, by omega, y7, y8, po', fi', ti', hm6⟩, by omega⟩
    · have := hx.2.2.1
      exact ⟨Or.inr hx, by omega⟩
  obtain ⟨D', E', v1, v2⟩ := j_text hq z2 (by omega) 200 tf_N tf_N 0 D1 E1 st.1 (by omega) (by unfold tf_N; omega) (by unfold tf_N; omega) (by omega) st.2
  exact ⟨D', D0, E', E0, d1, e1, ej, by rw [e16, tu_ne (by decide)], v1, v2⟩
/-- law -/
theorem st_7 : ls_7 lw_R := by
  intro Dc Dm _ hR
  obtain ⟨h1, h2, h3, h4, h5, h6, h7, h8, h9⟩ := id hR
  obtain ⟨p, q, hpq, hp, hqq, hla⟩ : ∃ p q : Nat, ((p = 12 ∧ q = 16) ∨ (p = 16 ∧ q = 12)) ∧ Dc 1 2 = (p : Int) ∧ Dc 1 3 = (q : Int) ∧ ((Dm 1 30 = 0 ∧ Dc p 3 = 0) ∨ (Dm 1 30 = 1 ∧ p_code (Dc p 3) (Dc (p + 1)) (Dc (p + 2)) (Dm 14) (Dm 15) (Dm 16) (Dm 17) (Dm 18))) := by
    rcases h4 with ⟨a, b, c⟩ | ⟨a, b, c⟩
    · exact ⟨12, 16, Or.inl ⟨rfl, rfl⟩, a, b, c⟩
    · exact ⟨16, 12, Or.inr ⟨rfl, rfl⟩, a, b, c⟩
  have hq : q = 12 ∨ q = 16 := by omega
  have LAW : ∀ (D : td_D) (E : td_D) (la dr : Nat), ((la = 12 ∧ dr = 16) ∨ (la = 16 ∧ dr = 12)) → D 1 2 = (la : Int) → D 1 3 = (dr : Int) → ((E 1 30 = 0 ∧ D la 3 = 0) ∨ (E 1 30 = 1 ∧ p_code (D la 3) (D (la + 1)) (D (la + 2)) (E 14) (E 15) (E 16) (E 17) (E 18))) → p_law (D 1 2) (D 1 3) (D 12 3) (D 16 3) (D 13) (D 14) (D 17) (D 18) (E 1 30) (E 14) (E 15) (E 16) (E 17) (E 18) := by
    intro D E la dr h a b c
    rcases h with ⟨rfl, rfl⟩ | ⟨rfl, rfl⟩
    · exact Or.inl ⟨a, b, c⟩
    · exact Or.inr ⟨a, b, c⟩
  obtain ⟨D, D0, E, E0, d0, e0, ej, e16, tx, rx⟩ := j_into (q := q) hq h3
  unfold F_X11_law F_X12_law
  rw [if_pos (show Dc 1 3 = 12 ∨ Dc 1 3 = 16 by omega), hqq, Int.toNat_natCast, tx]
  unfold F_X12_readText_86
  rcases rx with ⟨⟨L, hi, hf, hh, k1, k2, k3, k4, k5, k6, po, fi, ti, hm⟩, rx⟩ | ⟨⟨hf, hh, k1, k2, k3⟩, rx⟩
  · obtain ⟨⟨j1, j2, j3, j4⟩, ⟨j5, j6, j7⟩, ⟨j8, j9⟩, j10⟩ := id hi
    have s18 : ∀ r : Nat, r ≠ 1 → td_upd E 1 18 0 r = E r := fun r hr => tu_row hr
    have s1 : td_upd E 1 18 0 1 = tv_up (E 1) 18 0 := tu_at
    generalize hE1 : td_upd E 1 18 0 = E1 at *
    have hfi : E 1 22 = (fi L : Int) := hm.2.2.2.1
    obtain ⟨E2, x1, x2, x3⟩ := fm_cp105 (N := fi L) (by omega) tf_N 0 E1 (by omega) (by unfold tf_N; omega) (by rw [s1, tu_ne (by decide)]; exact hfi)
    have g16 : td_upd E2 16 0 (E2 16 1) 16 = tv_up (E2 16) 0 (E2 16 1) := tu_at
    have g17 : ∀ r : Nat, r ≠ 16 → td_upd E2 16 0 (E2 16 1) r = E2 r := fun r hr => tu_row hr
    have o16 : E2 16 1 = (L : Int) := by rw [x2 16 (by decide) (by decide), s18 16 (by decide), k2]
    generalize hE3 : td_upd E2 16 0 (E2 16 1) = E3 at *
    obtain ⟨E4, w1, w2, w3⟩ := fm_cp177 (L := L) (by omega) tf_N 0 E3 (by omega) (by unfold tf_N; omega) (by rw [g16, tu_same, o16])
    rw [show ((0 : Nat) : Int) = 0 by rfl] at x1 w1
    rw [rx, tb_s]
    simp only [tb_l]
    rw [if_pos (show E1 1 20 < 0 by rw [s1, tu_ne (by decide)]; omega), x1, w1, tb_s, if_pos (show (-1 : Int) < 0 by decide), if_pos (show (-1 : Int) < 0 by decide)]
    have c1 : D 1 = Dc 1 := by rw [hf.1 1 (by decide) (by omega) (by omega) (by omega), d0 1 (by decide) (by omega)]
    have c2 : td_upd D 10 1 0 1 = Dc 1 := by rw [tu_row (by decide), c1]
    rw [c2, hp, hqq, if_pos (show (p : Int) = 12 ∨ (p : Int) = 16 by omega), if_pos (show (q : Int) = 12 ∨ (q : Int) = 16 by omega), Int.toNat_natCast, Int.toNat_natCast]
    refine ⟨1, _, _, rfl, rfl, lw_law hR (fun r h => ?_) (fun r h => ?_) (fun j a b c d e f => ?_) ?_ ?_ (LAW _ _ q p (by omega) ?_ ?_ (Or.inr ⟨?_, ?_⟩))⟩
    · rw [tu_row (by omega), tu_row (by omega), tu_row (by omega), hf.1 r (by omega) (by omega) (by omega) (by omega), d0 r (by omega) (by omega)]
    · rw [tu_row (by omega), w2 r (by omega) (by omega), g17 r (by omega), x2 r (by omega) (by omega), s18 r (by omega), hh.1 r (by omega) (by omega) (by omega) (by omega) (by omega) (by omega), e0 r (by omega) (by omega)]
    · rw [tu_at, tu_ne f, w2 1 (by decide) (by decide), g17 1 (by decide), x2 1 (by decide) (by decide), s1, tu_ne a, hh.2.1 j b c d e, ej j b c d e]
    · rw [tu_row (by decide), tu_row (by decide), tu_at, tu_same]
    · rw [tu_at, tu_ne (by decide), w2 1 (by decide) (by decide), g17 1 (by decide), x2 1 (by decide) (by decide), s1, tu_same]
    · rw [tu_at, tu_ne (by decide), tu_at, tu_same]
    · rw [tu_at, tu_same]
    · rw [tu_at, tu_same]
    · have r1 : ∀ r : Nat, r ≠ 1 → r ≠ 10 → td_upd (td_upd (td_upd D 10 1 0) 1 2 (q : Int)) 1 3 (p : Int) r = D r := fun r a b => by rw [tu_row a, tu_row a, tu_row b]
      rw [r1 q (by omega) (by omega), r1 (q + 1) (by omega) (by omega), r1 (q + 2) (by omega) (by omega)]
      have r2 : ∀ r : Nat, r ≠ 1 → td_upd E4 1 30 1 r = E4 r := fun r a => tu_row a
      rw [r2 14 (by decide), r2 15 (by decide), r2 16 (by decide), r2 17 (by decide), r2 18 (by decide), w2 14 (by decide) (by decide), w2 15 (by decide) (by decide), w2 16 (by decide) (by decide), g17 14 (by decide), g17 15 (by decide), g16]
      refine jm_code hm k3 (by omega) (by omega) (by omega) ?_ (fun i hi => ?_) (fun l hl => ?_)
      · rw [tu_same, o16]
      · rw [(x3 i).1, (x3 i).2, if_pos ⟨Nat.zero_le _, hi⟩, if_pos ⟨Nat.zero_le _, hi⟩, s18 14 (by decide), s18 15 (by decide)]
        exact ⟨rfl, rfl⟩
      · rw [(w3 l).1, (w3 l).2, if_pos ⟨Nat.zero_le _, hl⟩, if_pos ⟨Nat.zero_le _, hl⟩, g17 17 (by decide), g17 18 (by decide), x2 17 (by decide) (by decide), x2 18 (by decide) (by decide), s18 17 (by decide), s18 18 (by decide)]
        exact ⟨rfl, rfl⟩
  · rw [rx, tb_s]
    simp only [tb_l]
    rw [if_neg (show ¬ td_upd E 1 18 0 1 20 < 0 by rw [tu_at, tu_ne (by decide)]; omega), tb_s, if_neg (show ¬ D 10 2 < 0 by omega), if_neg (show ¬ td_upd E 1 18 0 1 20 < 0 by rw [tu_at, tu_ne (by decide)]; omega)]
    rw [show td_upd E 1 18 0 1 20 = D 10 2 by rw [tu_at, tu_ne (by decide)]; exact k1]
    have c1 : D 1 = Dc 1 := by rw [hf.1 1 (by decide) (by omega) (by omega) (by omega), d0 1 (by decide) (by omega)]
    have cr : ∀ r : Nat, r ≠ 10 → r ≠ q → r ≠ q + 1 → r ≠ q + 2 → td_upd D 10 1 0 r = Dc r := fun r a b c d => by rw [tu_row a, hf.1 r a b c d, d0 r a b]
    refine ⟨_, _, _, rfl, rfl, lw_law hR (fun r h => ?_) (fun r h => ?_) (fun j a b c d e f => ?_) ?_ ?_ (LAW _ _ p q hpq ?_ ?_ ?_)⟩
    · exact cr r (by omega) (by omega) (by omega) (by omega)
    · rw [tu_row (by omega), hh.1 r (by omega) (by omega) (by omega) (by omega) (by omega) (by omega), e0 r (by omega) (by omega)]
    · rw [tu_at, tu_ne a, hh.2.1 j b c d e, ej j b c d e]
    · rw [tu_at, tu_same]
    · rw [tu_at, tu_same]
    · rw [cr 1 (by decide) (by omega) (by omega) (by omega)]; exact hp
    · rw [cr 1 (by decide) (by omega) (by omega) (by omega)]; exact hqq
    · rw [cr p (by omega) (by omega) (by omega) (by omega), cr (p + 1) (by omega) (by omega) (by omega) (by omega), cr (p + 2) (by omega) (by omega) (by omega) (by omega)]
      have e30 : td_upd E 1 18 0 1 30 = Dm 1 30 := by rw [tu_at, tu_ne (by decide), hh.2.1 30 (by decide) (by decide) (by decide) (by decide), ej 30 (by decide) (by decide) (by decide) (by decide)]
      rw [e30]
      rcases hla with hla | ⟨a, b⟩
      · exact Or.inl hla
      · refine Or.inr ⟨a, pc_c b (fun i hi => ?_) ?_ (fun i hi => ?_)⟩
        · rw [tu_row (by decide), tu_row (by decide), (hh.2.2.1 i hi).1, (hh.2.2.1 i hi).2, e0 14 (by decide) (by decide), e0 15 (by decide) (by decide)]
          exact ⟨rfl, rfl⟩
        · rw [tu_row (by decide), hh.2.2.2.1, e16]
        · rw [tu_row (by decide), tu_row (by decide), (hh.2.2.2.2 i hi).1, (hh.2.2.2.2 i hi).2, e0 17 (by decide) (by decide), e0 18 (by decide) (by decide)]
          exact ⟨rfl, rfl⟩
