theorem sh_all {Dc Dm : td_D} (hR : lw_R Dc Dm) : ∀ s : Nat, s < 6 → p_shelf (Dc 43 1) s (Dc (47 + 2 * s)) (Dc (48 + 2 * s)) (Dm 37) (Dm 38) (Dm 39) := by
  obtain ⟨hl, hs, ht, hw, hc, hg, hi, hb, h0, h1, h2, h3, h4, h5⟩ := hR
  intro s hs
  have q : s = 0 ∨ s = 1 ∨ s = 2 ∨ s = 3 ∨ s = 4 ∨ s = 5 := by omega
  rcases q with rfl | rfl | rfl | rfl | rfl | rfl
  · exact h0
  · exact h1
  · exact h2
  · exact h3
  · exact h4
  · exact h5
theorem sh_U {Dc Dm Dc' Dm' : td_D} {s0 : Nat} (h0 : s0 < 6) (hR : lw_R Dc Dm) (c : ∀ r : Nat, r ≠ 47 + 2 * s0 → r ≠ 48 + 2 * s0 → Dc' r = Dc r) (m : ∀ r : Nat, r ≠ 37 → r ≠ 38 → r ≠ 39 → r ≠ 40 → Dm' r = Dm r) (m7 : ∀ s : Nat, s ≠ s0 → Dm' 37 s = Dm 37 s) (m8 : ∀ s : Nat, s ≠ s0 → Dm' 38 s = Dm 38 s) (m9 : ∀ j : Nat, ¬ (60 * s0 ≤ j ∧ j < 60 * s0 + 60) → Dm' 39 j = Dm 39 j)
    (new : p_shelf (Dc 43 1) s0 (Dc' (47 + 2 * s0)) (Dc' (48 + 2 * s0)) (Dm' 37) (Dm' 38) (Dm' 39)) : lw_R Dc' Dm' := by
  have all : ∀ s : Nat, s < 6 → p_shelf (Dc 43 1) s (Dc' (47 + 2 * s)) (Dc' (48 + 2 * s)) (Dm' 37) (Dm' 38) (Dm' 39) := by
    intro s hs
    by_cases q : s = s0
    · subst q
      exact new
    · have old := sh_all hR s hs
      rw [c _ (by omega) (by omega), c _ (by omega) (by omega)]
      unfold p_shelf at *
      rw [m7 s q, m8 s q]
      rcases old with old | old | old
      · exact Or.inl old
      · exact Or.inr (Or.inl old)
      · refine Or.inr (Or.inr ⟨old.1, old.2.1, old.2.2.1, old.2.2.2.1, old.2.2.2.2.1, old.2.2.2.2.2.1, fun i hi => ?_⟩)
        rw [m9 _ (by omega)]
        exact old.2.2.2.2.2.2 i hi
  obtain ⟨hl, hs, ht, hw, hc, hg, hi, hb, -⟩ := id hR
  unfold lw_R
  have c' : ∀ r : Nat, r < 47 → Dc' r = Dc r := fun r hr => c r (by omega) (by omega)
  have m' : ∀ r : Nat, r < 37 → Dm' r = Dm r := fun r hr => m r (by omega) (by omega) (by omega) (by omega)
  have x := And.intro (all 0 (by omega)) (And.intro (all 1 (by omega)) (And.intro (all 2 (by omega)) (And.intro (all 3 (by omega)) (And.intro (all 4 (by omega)) (all 5 (by omega))))))
  clear all
  simp (disch := decide) only [c', m']
  exact ⟨hl, hs, ht, hw, hc, hg, hi, hb, x⟩
theorem sh_k {n : Int} {s : Nat} {o e ho si el : Nat → Int} (h : p_shelf n s o e ho si el) : (o 0 = -1 ∧ ho s = -1) ∨ (o 0 = 5 ∧ 0 ≤ ho s ∧ ho s < n ∧ o 1 = ho s) ∨ (0 ≤ o 0 ∧ o 0 ≤ 4 ∧ ho s = -2 - o 0 ∧ o 2 = si s ∧ 0 ≤ o 2 ∧ o 2 ≤ 60 ∧ ∀ i : Nat, (i : Int) < o 2 → el (60 * s + i) = e i ∧ p_el (o 0) (e i)) := by
  rcases h with h | h | h
  · exact Or.inl ⟨h.2, h.1⟩
  · exact Or.inr (Or.inl ⟨h.2.2.1, h.1, h.2.1, h.2.2.2⟩)
  · exact Or.inr (Or.inr ⟨by omega, by omega, by omega, h.2.2.2.1, h.2.2.2.2.1, h.2.2.2.2.2.1, h.2.2.2.2.2.2⟩)
/-- keep -/
theorem st_38 : ls_38 lw_R := by
  intro a1 a2 Dc Dm _ _ _ hR
  obtain ⟨hl, hs, ht, hw, hc, hg, hi, ⟨⟨b1, b1a, b1b⟩, -⟩, -⟩ := id hR
  unfold F_X11_keep F_X12_keep
  simp only [fe_isShelf, fm_isShelf, fe_isBody, fm_isBody _ (show 0 ≤ Dm 1 50 ∧ Dm 1 50 ≤ 50 by omega), td_bs, tf_0, b1]
  by_cases c : 0 ≤ a1 ∧ a1 ≤ 5
  · have go : ∀ (x y : Int), x = a2 → ((y = -1 ∧ a2 = -1) ∨ (y = 5 ∧ 0 ≤ a2 ∧ a2 < Dc 43 1)) → lw_eq lw_R (F_X11_keep_41 a1 a2 (td_r g_c 46 a1.toNat) y Dc) (td_l (td_upd Dm 37 a1.toNat x) fun D => some (1, D)) := by
      intro x y hx hy
      subst hx
      unfold F_X11_keep_41
      simp (disch := omega) only [if_pos, td_ls, tr_46]
      refine lw_rt rfl (sh_U (s0 := a1.toNat) (by omega) hR (fun r x1 x2 => by rw [tu_row x1, tu_row x1, tu_row x1]) (fun r x1 x2 x3 x4 => tu_row x1) (fun s hs => by rw [tu_at, tu_ne hs]) (fun s hs => by rw [tu_row (by decide)]) (fun j hj => by rw [tu_row (by decide)]) ?_)
      unfold p_shelf
      simp only [tu_at, tu_same]
      rcases hy with ⟨rfl, rfl⟩ | ⟨rfl, hy⟩
      · left
        simp (disch := decide) only [tu_ne, tu_same, and_self]
      · right; left
        simp (disch := decide) only [tu_ne, tu_same]
        exact ⟨hy.1, hy.2, trivial, trivial⟩
    by_cases c1 : a2 = -1
    · simp (disch := omega) only [if_pos, if_neg]
      exact go _ _ rfl (Or.inl ⟨rfl, c1⟩)
    · by_cases c2 : 0 ≤ a2 ∧ a2 < Dc 43 1
      · simp (disch := omega) only [if_pos, if_neg]
        exact go _ _ rfl (Or.inr ⟨rfl, c2⟩)
      · simp (disch := omega) only [if_pos, if_neg]
        exact lw_rt rfl hR
  · simp only [if_pos c]
    exact lw_rt rfl hR
def zr_o (D : td_D) (r1 : Nat) (v N : Int) : td_D := fun r j => if r = r1 ∧ v ≤ (j : Int) ∧ (j : Int) < N then 0 else D r j
theorem zr_row {D : td_D} {r1 r : Nat} {v N : Int} (h : r ≠ r1) : zr_o D r1 v N r = D r := by
  funext j
  show (if _ then _ else _) = _
  rw [if_neg (fun q => h q.1)]
theorem zr_at {D : td_D} {r1 j : Nat} {v N : Int} : zr_o D r1 v N r1 j = if v ≤ (j : Int) ∧ (j : Int) < N then 0 else D r1 j := by
  show (if _ then _ else _) = _
  by_cases h : v ≤ (j : Int) ∧ (j : Int) < N
  · rw [if_pos ⟨rfl, h⟩, if_pos h]
  · rw [if_neg (fun q => h q.2), if_neg h]
theorem zr_end {D : td_D} {r1 : Nat} {v N : Int} (h : N ≤ v) : zr_o D r1 v N = D := by
  funext r j
  show (if _ then _ else _) = _
  rw [if_neg (by omega)]
theorem zr_step {D : td_D} {r1 : Nat} {v N : Int} (h : 0 ≤ v) (h1 : v < N) : zr_o (td_upd D r1 v.toNat 0) r1 (v + 1) N = zr_o D r1 v N := by
  funext r j
  by_cases c : r = r1
  · subst c
    rw [zr_at, zr_at, tu_at]
    unfold tv_up
    by_cases c2 : v + 1 ≤ (j : Int) ∧ (j : Int) < N
    · rw [if_pos c2, if_pos (by omega)]
    · rw [if_neg c2]
      by_cases c3 : j = v.toNat
      · rw [if_pos c3, if_pos (by omega)]
      · rw [if_neg c3, if_neg (by omega)]
  · rw [zr_row c, zr_row c, tu_row c]
theorem fe_clear {s : Nat} {N : Int} (hs : s < 6) (hN : N ≤ 60) : ∀ (m : Nat) (v : Int) (D : td_D), 0 ≤ v → v ≤ N → N - v < m → F_X6_clear_12 m (47 + 2 * s) N v D = some (0, zr_o D (48 + 2 * s) v N) := by
  intro m
  induction m with
  | zero => intro v D h1 h2 h3; omega
  | succ m ih =>
    intro v D h1 h2 h3
    unfold F_X6_clear_12
    by_cases c : N ≤ v
    · rw [if_pos c, zr_end c]
    · simp (disch := omega) only [if_pos, if_neg, td_ls, tw_s, tr_sh]
      rw [ih _ _ (by omega) (by omega) (by omega), zr_step h1 (by omega)]
theorem fm_row_54 {a : Int} (h1 : 0 ≤ a) (h2 : a ≤ 5) : ∀ (m : Nat) (v : Int) (D : td_D), 60 * a ≤ v → v ≤ 60 * a + 60 → 60 * a + 60 - v < m → F_X12_row_54 m a v D = some (1, zr_o D 39 v (60 * a + 60)) := by
  intro m
  induction m with
  | zero => intro v D h3 h4 h5; omega
  | succ m ih =>
    intro v D h3 h4 h5
    unfold F_X12_row_54
    by_cases c : 60 * a + 60 ≤ v
    · simp (disch := omega) only [if_pos, tw_s]
      rw [zr_end c]
    · simp (disch := omega) only [if_pos, if_neg, td_ls, tw_s]
      rw [ih _ _ (by omega) (by omega) (by omega), zr_step (by omega) (by omega)]
/-- row -/
theorem st_39 : ls_39 lw_R := by
  intro a1 a2 a3 Dc Dm _ _ _ _ hR
  unfold F_X11_row F_X12_row
  simp only [fe_isShelf, fm_isShelf, fm_in, td_bs, tf_0]
  by_cases c : 0 ≤ a1 ∧ a1 ≤ 5
  · by_cases c1 : 0 ≤ a2 ∧ a2 ≤ 4
    · by_cases c2 : a3 ≤ 60
      · by_cases c3 : 0 ≤ a3
        · unfold F_X6_clear
          simp (disch := omega) only [if_pos, if_neg, td_ls, td_bs, tw_s, tr_46]
          rw [fe_clear (by omega) c2 tf_N 0 _ (by omega) c3 (by unfold tf_N; omega), td_bs, fm_row_54 c.1 c.2 tf_N (60 * a1) _ (by omega) (by omega) (by unfold tf_N; omega)]
          refine lw_rt rfl (sh_U (s0 := a1.toNat) (by omega) hR (fun r x1 x2 => by rw [zr_row x2, tu_row x1, tu_row x1]) (fun r x1 x2 x3 x4 => by rw [zr_row x3, tu_row x2, tu_row x1]) (fun s hs => by rw [zr_row (by decide), tu_row (by decide), tu_at, tu_ne hs]) (fun s hs => by rw [zr_row (by decide), tu_at, tu_row (by decide), tu_ne hs]) (fun j hj => by rw [zr_at, if_neg (by omega), tu_row (by decide), tu_row (by decide)]) ?_)
          unfold p_shelf
          right; right
          simp (disch := omega) only [zr_row, tu_at, tu_row, tu_same, tu_ne]
          refine ⟨by omega, by omega, by omega, trivial, c3, c2, fun i hi => ?_⟩
          rw [zr_at, zr_at, if_pos (by omega), if_pos (by omega)]
          unfold p_el
          omega
        · simp (disch := omega) only [if_pos, if_neg]
          exact lw_rt rfl hR
      · simp (disch := omega) only [if_pos, if_neg]
        exact lw_rt rfl hR
    · by_cases c4 : a2 < 0 <;> simp (disch := omega) only [if_pos, if_neg] <;> exact lw_rt rfl hR
  · simp only [if_pos c]
    exact lw_rt rfl hR
