/-- rows of best worth, with who attains it -/
def bt_o (Dc : td_D) (f : Nat → Int) (d b : Int) : Prop := f (64 * d + b).toNat = f (64 * (d + 1) + b).toNat ∨ ∃ q : Int, 0 ≤ q ∧ q < Dc 2 0 ∧ fb_o Dc d b q ∧ wb_o Dc f d b q = f (64 * d + b).toNat
/-- all entries from deed d on, and the first b of the deed ahead -/
def wt_o (Dc D E : td_D) (d b : Int) : Prop := (∀ j : Nat, 64 * d ≤ (j : Int) → (j : Int) < 64 * d + b → wr_o Dc (D 28) (E 25) j) ∧ (∀ j : Nat, 64 * (d + 1) ≤ (j : Int) → (j : Int) < 64 * (Dc 2 2 + 1) → wr_o Dc (D 28) (E 25) j) ∧ (∀ c : Int, 0 ≤ c → c < b → bt_o Dc (D 28) d c) ∧ ∀ e c : Int, d < e → e < Dc 2 2 → 0 ≤ c → c < 64 → bt_o Dc (D 28) e c
theorem bt_up {Dc : td_D} {f : Nat → Int} {d b e c v : Int} (h : bt_o Dc f e c) (d1 : 0 ≤ d) (b1 : 0 ≤ b) (b2 : b < 64) (e1 : 0 ≤ c) (e2 : c < 64) (pe : Dc 2 0 ≤ 6) (ne : (e = d ∧ c ≠ b) ∨ d < e) : bt_o Dc (tv_up f (64 * d + b).toNat v) e c := by
  unfold bt_o wb_o at *
  rw [tu_ne (f := f) (i := (64 * e + c).toNat) (by omega), tu_ne (f := f) (i := (64 * (e + 1) + c).toNat) (by omega)]
  rcases h with h | ⟨q, q1, q2, q3, q4⟩
  · exact Or.inl h
  · have o := or_b e1 e2 q1 (show q < 6 by omega)
    refine Or.inr ⟨q, q1, q2, q3, ?_⟩
    rw [tu_ne (by omega)]
    exact q4
theorem lk_42 {Dc Dm : td_D} (hR : lw_R Dc Dm) {d : Int} (d1 : 0 ≤ d) (d2 : d < Dc 2 2) (k36 k5 : Int → td_D → Option (Int × td_D)) : ∀ (m : Nat) (b : Int) (D E : td_D), 0 ≤ b → b ≤ 64 → 64 - b < m → fr_c Dc D → fr_m Dm E → wt_o Dc D E d b → ∃ D' E' : td_D, F_X4_reckon_42 k36 m d b D = k36 (d - 1) D' ∧ F_X12_findWho_11 k5 m d b E = k5 (d - 1) E' ∧ fr_c Dc D' ∧ fr_m Dm E' ∧ wt_o Dc D' E' d 64 := by
  obtain ⟨⟨⟨l1, l1a, l1b⟩, ⟨l2, l2a, l2b⟩, ⟨l3, l3a, l3b⟩, -⟩, -⟩ := id hR
  intro m
  induction m with
  | zero => intro b D E q1 q2 q3; omega
  | succ m ih =>
    intro b D E q1 q2 q3 fc fm hw
    unfold F_X4_reckon_42 F_X12_findWho_11
    by_cases c : 64 ≤ b
    · have b64 : b = 64 := by omega
      subst b64
      rw [if_pos c, if_pos c, tw_s (a := d + -1) (by omega) (by omega)]
      exact ⟨D, E, rfl, rfl, fc, fm, hw⟩
    · rw [if_neg c, if_neg c]
      obtain ⟨h1, h2, h3, h4⟩ := hw
      have i0 := h2 (64 * (d + 1) + b).toNat (by omega) (by omega)
      unfold wr_o at i0
      have j64 : (((64 * (d + 1) + b).toNat / 64 : Nat) : Int) = d + 1 := by omega
      rw [j64] at i0
      obtain ⟨r, r1, r2, r3, r4, r5⟩ := lk_best hR fc fm d1 d2 q1 (show b < 64 by omega) h2 k5 (fun v1 v2 D => F_X12_findWho_11 k5 m v1 v2 D) tf_N 0 (D 28 (64 * (d + 1) + b).toNat) 0 (by omega) l1a (by unfold tf_N; omega) (by omega) (by omega) (by split <;> omega) (Or.inl rfl)
      have r1' : F_X4_bestFrom d b D = some (r, D) := by
        unfold F_X4_bestFrom
        rw [tw_s (a := d + 1) (by omega) (by omega), tw_s (a := (d + 1) * 64) (by omega) (by omega), show (d + 1) * 64 = 64 * (d + 1) by omega, tw_s (a := 64 * (d + 1) + b) (by omega) (by omega), if_pos (by omega)]
        exact r1
      rw [r1', td_bs, tw_s (a := d * 64) (by omega) (by omega), show d * 64 = 64 * d by omega, tw_s (a := 64 * d + b) (by omega) (by omega), if_pos (by omega), td_ls, tw_s (a := b + 1) (by omega) (by omega), r2]
      refine ih (b + 1) (td_upd D 28 (64 * d + b).toNat r) (td_upd E 25 (64 * d + b).toNat r) (by omega) (by omega) (by omega) (fr_ct fc (fr_cu rfl (fun q => absurd q.1 (by decide)))) (fr_mt fm (fr_mu rfl (fun q => absurd q (by decide)))) ⟨fun j j1 j2 => ?_, fun j j1 j2 => ?_, fun cc c1 c2 => ?_, fun e cc e1 e2 c1 c2 => ?_⟩
      · rw [tu_at, tu_at]
        unfold wr_o
        by_cases z : j = (64 * d + b).toNat
        · subst z
          rw [tu_same, tu_same]
          have j65 : (((64 * d + b).toNat / 64 : Nat) : Int) = d := by clear r5; omega
          rw [j65]
          exact ⟨rfl, r3, r4⟩
        · rw [tu_ne z, tu_ne z]
          exact h1 j j1 (by clear r5; omega)
      · rw [tu_at, tu_at]
        unfold wr_o
        have z : j ≠ (64 * d + b).toNat := by clear r5; omega
        rw [tu_ne z, tu_ne z]
        exact h2 j j1 j2
      · rw [tu_at]
        by_cases z : cc = b
        · subst z
          unfold bt_o wb_o at *
          rw [tu_same, tu_ne (f := D 28) (i := (64 * (d + 1) + cc).toNat) (by clear r5; omega)]
          rcases r5 with r5 | ⟨q, y1, y2, y3, y4⟩
          · exact Or.inl r5
          · have o := or_b c1 (show cc < 64 by omega) y1 (show q < 6 by omega)
            refine Or.inr ⟨q, y1, y2, y3, ?_⟩
            rw [tu_ne (by omega)]
            exact y4
        · exact bt_up (h3 cc c1 (by clear r5; omega)) d1 q1 (by omega) c1 (by clear r5; omega) l1b (Or.inl ⟨rfl, z⟩)
      · rw [tu_at]
        exact bt_up (h4 e cc e1 e2 c1 c2) d1 q1 (by omega) c1 c2 l1b (Or.inr e1)
theorem lk_36 {Dc Dm : td_D} (hR : lw_R Dc Dm) : ∀ (n m m' : Nat) (D E : td_D), (n : Int) ≤ Dc 2 2 → n < m → n < m' → fr_c Dc D → fr_m Dm E → wt_o Dc D E ((n : Int) - 1) 0 → ∃ D' E' : td_D, F_X4_reckon_36 m ((n : Int) - 1) D = some (0, D') ∧ F_X12_findWho_5 m' ((n : Int) - 1) E = some (0, E') ∧ fr_c Dc D' ∧ fr_m Dm E' ∧ wt_o Dc D' E' (-1) 0 := by
  intro n
  induction n with
  | zero =>
    intro m m' D E q1 q2 q3 fc fm hw
    obtain ⟨a, rfl⟩ : ∃ a : Nat, m = a + 1 := ⟨m - 1, by omega⟩
    obtain ⟨a', rfl⟩ : ∃ a' : Nat, m' = a' + 1 := ⟨m' - 1, by omega⟩
    unfold F_X4_reckon_36 F_X12_findWho_5
    rw [if_pos (by omega), if_pos (by omega)]
    exact ⟨D, E, rfl, rfl, fc, fm, hw⟩
  | succ n ih =>
    intro m m' D E q1 q2 q3 fc fm hw
    obtain ⟨a, rfl⟩ : ∃ a : Nat, m = a + 1 := ⟨m - 1, by omega⟩
    obtain ⟨a', rfl⟩ : ∃ a' : Nat, m' = a' + 1 := ⟨m' - 1, by omega⟩
    unfold F_X4_reckon_36 F_X12_findWho_5
    rw [show ((n + 1 : Nat) : Int) - 1 = (n : Int) by omega] at *
    rw [if_neg (show ¬ (n : Int) < 0 by omega), if_neg (show ¬ (n : Int) < 0 by omega)]
    obtain ⟨D1, E1, e1, e2, e3, e4, e5⟩ := lk_42 hR (d := (n : Int)) (by omega) (by omega) (fun v2 D => F_X4_reckon_36 a v2 D) (fun v1 D => F_X12_findWho_5 a' v1 D) tf_N 0 D E (by omega) (by omega) (by unfold tf_N; omega) fc fm hw
    rw [e1, e2]
    refine ih a a' D1 E1 (by omega) (by omega) (by omega) e3 e4 ?_
    obtain ⟨h1, h2, h3, h4⟩ := e5
    refine ⟨fun j j1 j2 => by omega, fun j j1 j2 => ?_, fun c c1 c2 => by omega, fun e c g1 g2 c1 c2 => ?_⟩
    · by_cases z : (j : Int) < 64 * (n : Int) + 64
      · exact h1 j (by omega) z
      · exact h2 j (by omega) j2
    · by_cases z : e = (n : Int)
      · rw [z]
        exact h3 c c1 c2
      · exact h4 e c (by omega) g2 c1 c2
theorem fe_rk2 {D0 : td_D} (h1 : 0 ≤ D0 2 2) (h2 : D0 2 2 ≤ 10) : ∀ (m : Nat) (u : Int) (D : td_D), 0 ≤ u → u ≤ 64 → 64 - u < m → fr_c D0 D → (∀ j : Nat, 64 * D0 2 2 ≤ (j : Int) → (j : Int) < 64 * D0 2 2 + u → D 28 j = 0) → ∃ D' : td_D, F_X4_reckon_2 m u D = F_X4_reckon_36 tf_N (D0 2 2 - 1) D' ∧ fr_c D0 D' ∧ ∀ j : Nat, 64 * D0 2 2 ≤ (j : Int) → (j : Int) < 64 * D0 2 2 + 64 → D' 28 j = 0 := by
  intro m
  induction m with
  | zero => intro u D q1 q2 q3; omega
  | succ m ih =>
    intro u D q1 q2 q3 fc h
    have e : D 2 2 = D0 2 2 := by rw [fc.1 2 rfl]
    unfold F_X4_reckon_2
    by_cases c : 64 ≤ u
    · rw [if_pos c, e, tw_s (a := D0 2 2 - 1) (by omega) (by omega)]
      exact ⟨D, rfl, fc, fun j j1 j2 => h j j1 (by omega)⟩
    · rw [if_neg c, e, tw_s (a := D0 2 2 * 64) (by omega) (by omega), tw_s (a := D0 2 2 * 64 + u) (by omega) (by omega), if_pos (by omega), td_ls, tw_s (a := u + 1) (by omega) (by omega)]
      refine ih (u + 1) _ (by omega) (by omega) (by omega) (fr_ct fc (fr_cu rfl (fun q => absurd q.1 (by decide)))) (fun j j1 j2 => ?_)
      rw [tu_at]
      unfold tv_up
      split
      · rfl
      · exact h j j1 (by omega)
theorem fm_fw {de : Int} {D0 : td_D} (k5 : Int → td_D → Option (Int × td_D)) (h1 : 0 ≤ de) (h2 : de ≤ 10) (h0 : D0 1 6 = de) (h3 : 0 ≤ D0 1 1) : ∀ (m : Nat) (u : Int) (D : td_D), 0 ≤ u → u ≤ 64 → 64 - u < m → fr_m D0 D → (∀ j : Nat, 64 * de ≤ (j : Int) → (j : Int) < 64 * de + u → D 25 j = 0) → ∃ D' : td_D, F_X12_findWho_11 k5 m de u D = k5 (de - 1) D' ∧ fr_m D0 D' ∧ ∀ j : Nat, 64 * de ≤ (j : Int) → (j : Int) < 64 * de + 64 → D' 25 j = 0 := by
  intro m
  induction m with
  | zero => intro u D q1 q2 q3; omega
  | succ m ih =>
    intro u D q1 q2 q3 fm h
    have e : D 1 6 = de := by rw [fm.2 6 rfl, h0]
    have e1 : D 1 1 = D0 1 1 := fm.2 1 rfl
    unfold F_X12_findWho_11
    by_cases c : 64 ≤ u
    · rw [if_pos c, tw_s (a := de + -1) (by omega) (by omega)]
      exact ⟨D, rfl, fm, fun j j1 j2 => h j j1 (by omega)⟩
    · rw [if_neg c]
      have st : F_X12_findWho_22 k5 (fun v1 v2 D => F_X12_findWho_11 k5 m v1 v2 D) tf_N de u 0 0 D = F_X12_findWho_11 k5 m de (u + 1) (td_upd D 25 (64 * de + u).toNat 0) := by
        show F_X12_findWho_22 k5 _ (4999 + 1) de u 0 0 D = _
        unfold F_X12_findWho_22
        rw [if_neg (show ¬ D 1 1 < 0 by omega), if_pos (show D 1 6 ≤ de by omega), tw_s (a := 64 * de) (by omega) (by omega), tw_s (a := 64 * de + u) (by omega) (by omega), if_pos (by omega), td_ls, tw_s (a := u + 1) (by omega) (by omega)]
      rw [st]
      refine ih (u + 1) _ (by omega) (by omega) (by omega) (fr_mt fm (fr_mu rfl (fun q => absurd q (by decide)))) (fun j j1 j2 => ?_)
      rw [tu_at]
      unfold tv_up
      split
      · rfl
      · exact h j j1 (by omega)
theorem lk_find {Dc Dm : td_D} (hR : lw_R Dc Dm) : ∃ D' E' : td_D, F_X4_reckon Dc = some (0, D') ∧ F_X12_findWho Dm = some (0, E') ∧ fr_c Dc D' ∧ fr_m Dm E' ∧ wt_o Dc D' E' (-1) 0 := by
  obtain ⟨⟨⟨l1, l1a, l1b⟩, ⟨l2, l2a, l2b⟩, ⟨l3, l3a, l3b⟩, -⟩, -⟩ := id hR
  obtain ⟨D1, e1, e2, e3⟩ := fe_rk2 l3a l3b tf_N 0 Dc (by omega) (by omega) (by unfold tf_N; omega) (fr_c0 _) (fun j j1 j2 => by omega)
  obtain ⟨E1, g1, g2, g3⟩ := fm_fw (fun v1 D => F_X12_findWho_5 4999 v1 D) l3a l3b l3 (by omega) tf_N 0 Dm (by omega) (by omega) (by unfold tf_N; omega) (fr_m0 _) (fun j j1 j2 => by omega)
  obtain ⟨D2, E2, h1, h2, h3, h4, h5⟩ := lk_36 hR (Dc 2 2).toNat tf_N 4999 D1 E1 (by omega) (by unfold tf_N; omega) (by omega) e2 g2 ⟨fun j j1 j2 => by omega, fun j j1 j2 => by
      unfold wr_o
      rw [e3 j (by omega) (by omega), g3 j (by omega) (by omega)]
      omega, fun c c1 c2 => by omega, fun e c z1 z2 c1 c2 => by omega⟩
  rw [show (((Dc 2 2).toNat : Nat) : Int) = Dc 2 2 by omega] at h1 h2
  refine ⟨D2, E2, e1.trans h1, ?_, h3, h4, h5⟩
  unfold F_X12_findWho
  show F_X12_findWho_5 (4999 + 1) _ _ = _
  unfold F_X12_findWho_5
  rw [l3, if_neg (by omega), g1]
  exact h2
