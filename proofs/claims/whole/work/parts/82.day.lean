/-- how many have some in it -/
def ho_o (f : Nat → Int) (h : Int) : Int := cn_o (fun i => decide (0 < f ((6 * h).toNat + i))) 6
theorem cn_z {P : Nat → Bool} {m : Nat} : ∀ n : Nat, (∀ k : Nat, m ≤ k → k < n → ¬ P k = true) → m ≤ n → cn_o P n = cn_o P m := by
  intro n
  induction n with
  | zero => intro _ h; rw [show m = 0 by omega]
  | succ n ih =>
    intro hz hm
    by_cases c : m = n + 1
    · rw [c]
    · rw [cn_f (hz n (by omega) (by omega)), ih (fun k h1 h2 => hz k h1 (by omega)) (by omega)]
theorem fe_hold_4 {q r : Nat} {h : Int} {D : td_D} (hq : td_r g_c q 0 = r) (h1 : 0 ≤ h) (h2 : h < 5) : ∀ (m n : Nat), n ≤ 6 → 6 - n < m → F_X7_holders_4 m q h (cn_o (fun i => decide (0 < D r ((6 * h).toNat + i))) n) (n : Int) D = some (ho_o (D r) h, D) := by
  intro m
  induction m with
  | zero => intro n q1 q2; omega
  | succ m ih =>
    intro n q1 q2
    unfold F_X7_holders_4
    by_cases c : (6 : Int) ≤ (n : Int)
    · rw [if_pos c, show n = 6 by omega]
      rfl
    · have cb := @cn_b (fun i => decide (0 < D r ((6 * h).toNat + i))) n
      have i := ih (n + 1) (by omega) (by omega)
      rw [show ((n + 1 : Nat) : Int) = (n : Int) + 1 by omega] at i
      rw [if_neg c, fe_share h1 h2 (by omega) (by omega), td_bs, hq, show (6 * h + (n : Int)).toNat = (6 * h).toNat + n by omega, tw_s (a := (n : Int) + 1) (by omega) (by omega), tw_s (a := cn_o (fun i => decide (0 < D r ((6 * h).toNat + i))) n + 1) (by omega) (by omega), tw_s (a := cn_o (fun i => decide (0 < D r ((6 * h).toNat + i))) n + 0) (by omega) (by omega), Int.add_zero]
      by_cases e : D r ((6 * h).toNat + n) ≤ 0
      · rw [if_pos e]
        rw [cn_f (fun z => by have := of_decide_eq_true z; omega)] at i
        exact i
      · rw [if_neg e]
        rw [cn_t (show decide (0 < D r ((6 * h).toNat + n)) = true from decide_eq_true (by omega))] at i
        exact i
theorem fm_keep_4 {h : Int} {E : td_D} (h1 : 0 ≤ h) (h2 : h < 5) (p1 : 0 ≤ E 1 1) (p2 : E 1 1 ≤ 6) (hz : ∀ k : Nat, E 1 1 ≤ (k : Int) → k < 6 → E 21 ((6 * h).toNat + k) = 0) : ∀ (m n : Nat), (n : Int) ≤ E 1 1 → 6 - n < m → F_X12_keepers_4 m h (cn_o (fun i => decide (0 < E 21 ((6 * h).toNat + i))) n) (n : Int) E = some (ho_o (E 21) h, E) := by
  intro m
  induction m with
  | zero => intro n q1 q2; omega
  | succ m ih =>
    intro n q1 q2
    unfold F_X12_keepers_4
    by_cases c : E 1 1 ≤ (n : Int)
    · rw [if_pos c]
      unfold ho_o
      rw [cn_z (m := n) 6 (fun k k1 k2 z => by
        have z2 := of_decide_eq_true z
        rw [hz k (by omega) k2] at z2
        omega) (by omega)]
    · have cb := @cn_b (fun i => decide (0 < E 21 ((6 * h).toNat + i))) n
      have i := ih (n + 1) (by omega) (by omega)
      rw [show ((n + 1 : Nat) : Int) = (n : Int) + 1 by omega] at i
      rw [if_neg c, tw_s (a := 6 * h) (by omega) (by omega), tw_s (a := 6 * h + (n : Int)) (by omega) (by omega), if_pos (by omega), show (6 * h + (n : Int)).toNat = (6 * h).toNat + n by omega, tw_s (a := (n : Int) + 1) (by omega) (by omega), tw_s (a := cn_o (fun i => decide (0 < E 21 ((6 * h).toNat + i))) n + 1) (by omega) (by omega)]
      by_cases e : E 21 ((6 * h).toNat + n) ≤ 0
      · rw [if_pos e]
        rw [cn_f (fun z => by have := of_decide_eq_true z; omega)] at i
        exact i
      · rw [if_neg e]
        rw [cn_t (show decide (0 < E 21 ((6 * h).toNat + n)) = true from decide_eq_true (by omega))] at i
        exact i
theorem ho_c {f g : Nat → Int} {h : Int} (hf : ∀ i : Nat, i < 30 → g i = f i) (h1 : 0 ≤ h) (h2 : h < 5) : ho_o g h = ho_o f h := by
  unfold ho_o
  have e : ∀ n : Nat, n ≤ 6 → cn_o (fun i => decide (0 < g ((6 * h).toNat + i))) n = cn_o (fun i => decide (0 < f ((6 * h).toNat + i))) n := by
    intro n
    induction n with
    | zero => intro _; rfl
    | succ n ih =>
      intro hn
      show cn_o _ n + (if decide (0 < g ((6 * h).toNat + n)) = true then 1 else 0) = cn_o _ n + (if decide (0 < f ((6 * h).toNat + n)) = true then 1 else 0)
      rw [ih (by omega), hf _ (by omega)]
  exact e 6 (Nat.le_refl _)
/-- what a day of one share gives, on both sides -/
def cl_o (x : Int) : Int := if 0 ≤ x then (if x ≤ 99 then x else 99) else 0
theorem cl_b (x : Int) : 0 ≤ cl_o x ∧ cl_o x ≤ 99 := by
  unfold cl_o
  (repeat' split) <;> omega
theorem cl_e (x : Int) : tv_max 0 (tv_min 99 x) = cl_o x := by
  unfold cl_o tv_max tv_min
  (repeat' split) <;> omega
/-- what of the land a day rests on -/
def dy_o (Dc Dm D E : td_D) : Prop := (∀ r : Nat, r ≠ 6 → r ≠ 15 → r ≠ 19 → r ≠ 20 → r ≠ 22 → D r = Dc r) ∧ ∀ r : Nat, r ≠ 19 → r ≠ 20 → r ≠ 21 → r ≠ 22 → E r = Dm r
theorem lk_grow {Dc Dm D E : td_D} {f : Nat → Int} {h d a s0 : Int} (hR : lw_R Dc Dm) (dy : dy_o Dc Dm D E) (ht : p_th (Dc 2 0) (Dc 2 1) f (E 21)) (h1 : 0 ≤ h) (h2 : h < 5) (a1 : 1 ≤ a) (a2 : a ≤ 99) (hs : s0 = if Dc 2 9 = 3 then a else a + a / 10) (n1 : D 20 1 = al_o f h) (n2 : D 20 2 = Dc 2 9) (n3 : D 20 3 = ho_o f h) (n4 : D 20 4 = h) (n5 : D 20 5 = d) :
    ∃ (y : Int) (D' E' : td_D), F_X11_shareNextDay a D = some (y, D') ∧ F_X12_growsTo_43 h d a s0 E = some (y, E') ∧ 0 ≤ y ∧ y ≤ 99 ∧ (∀ r : Nat, r ≠ 15 → r ≠ 19 → r ≠ 20 → D' r = D r) ∧ (∀ i : Nat, i ≠ 0 → D' 20 i = D 20 i) ∧ ∀ r : Nat, r ≠ 19 → r ≠ 20 → E' r = E r := by
  obtain ⟨⟨⟨l1, l1a, l1b⟩, ⟨l2, l2a, l2b⟩, ⟨l3, l3a, l3b⟩, lon, lce, lsh, lz, -⟩, ⟨⟨s1, s1a, s1b⟩, -⟩, -, hw, -⟩ := id hR
  obtain ⟨dc, dm⟩ := dy
  have d1 : D 1 = Dc 1 := dc 1 (by decide) (by decide) (by decide) (by decide) (by decide)
  have d2 : D 2 = Dc 2 := dc 2 (by decide) (by decide) (by decide) (by decide) (by decide)
  have e1 : E 1 = Dm 1 := dm 1 (by decide) (by decide) (by decide) (by decide)
  have e8 : E 8 = Dm 8 := dm 8 (by decide) (by decide) (by decide) (by decide)
  have LAW : (D 1 2 = 12 ∨ D 1 2 = 16) ∧ ((E 1 30 = 0 ∧ D (D 1 2).toNat 3 = 0) ∨ (E 1 30 = 1 ∧ p_code (D (D 1 2).toNat 3) (D ((D 1 2).toNat + 1)) (D ((D 1 2).toNat + 2)) (E 14) (E 15) (E 16) (E 17) (E 18))) := by
    rw [d1, e1, dm 14 (by decide) (by decide) (by decide) (by decide), dm 15 (by decide) (by decide) (by decide) (by decide), dm 16 (by decide) (by decide) (by decide) (by decide), dm 17 (by decide) (by decide) (by decide) (by decide), dm 18 (by decide) (by decide) (by decide) (by decide)]
    rcases hw with ⟨w1, w2, w3⟩ | ⟨w1, w2, w3⟩
    · rw [w1]
      refine ⟨Or.inl rfl, ?_⟩
      show (_ ∧ D 12 3 = 0) ∨ (_ ∧ p_code (D 12 3) (D 13) (D 14) _ _ _ _ _)
      rw [dc 12 (by decide) (by decide) (by decide) (by decide) (by decide), dc 13 (by decide) (by decide) (by decide) (by decide) (by decide), dc 14 (by decide) (by decide) (by decide) (by decide) (by decide)]
      exact w3
    · rw [w1]
      refine ⟨Or.inr rfl, ?_⟩
      show (_ ∧ D 16 3 = 0) ∨ (_ ∧ p_code (D 16 3) (D 17) (D 18) _ _ _ _ _)
      rw [dc 16 (by decide) (by decide) (by decide) (by decide) (by decide), dc 17 (by decide) (by decide) (by decide) (by decide) (by decide), dc 18 (by decide) (by decide) (by decide) (by decide) (by decide)]
      exact w3
  obtain ⟨L1, L2⟩ := LAW
  unfold F_X11_shareNextDay F_X12_growsTo_43
  rw [if_pos L1]
  rcases L2 with ⟨w1, w2⟩ | ⟨w1, w2⟩
  · rw [if_pos (show D (D 1 2).toNat 3 ≤ 0 by omega), if_pos w1, d2]
    have cb := cl_b s0
    refine ⟨cl_o s0, D, E, ?_, ?_, cb.1, cb.2, fun _ _ _ _ => rfl, fun _ _ => rfl, fun _ _ _ => rfl⟩
    · rw [cl_e, cl_e, tv_dv (by omega) (by omega) (by omega), tw_s (a := a + a / 10) (by omega) (by omega), hs]
      split <;> rfl
    · unfold cl_o
      (repeat' split) <;> rfl
  · have q : (D 1 2).toNat = 12 ∨ (D 1 2).toNat = 16 := by omega
    generalize hqq : (D 1 2).toNat = q' at *
    have np : 0 < D q' 3 := w2.1
    have nq : ∀ x : Nat, (x = q' ∨ x = q' + 1 ∨ x = q' + 2) → x ≠ 20 := fun x hx => by omega
    rw [if_neg (show ¬ D q' 3 ≤ 0 by omega), if_neg (show ¬ E 1 30 = 0 by omega), td_ls, td_ls]
    have A1 : td_upd D 20 (Int.toNat 0) a 1 2 = D 1 2 := by rw [tu_row (by decide)]
    rw [A1, if_pos L1, hqq]
    -- the model's facts
    have E1 : ∀ (j : Nat) (v : Int), p_th (Dc 2 0) (Dc 2 1) f (td_upd E 19 j v 21) := fun j v => by rw [tu_row (by decide)]; exact ht
    have aI := fm_allIn (D := td_upd E 19 (Int.toNat 0) a) (E1 _ _) (show td_upd E 19 (Int.toNat 0) a 1 1 = Dc 2 0 by rw [tu_row (by decide), e1]; exact l1) h1 h2 l1a l1b
    rw [aI, td_bs, td_ls, td_ls]
    have kI : ∀ X : td_D, X 21 = E 21 → X 1 = E 1 → F_X12_keepers h X = some (ho_o f h, X) := by
      intro X x1 x2
      have z := fm_keep_4 (E := X) h1 h2 (by rw [x2, e1]; omega) (by rw [x2, e1]; omega) (fun k k1 k2 => by
        rw [x1]
        rw [x2, e1, l1] at k1
        have z := ht.2 h.toNat k (by omega) k2 (Or.inr k1)
        rw [(ht.1 _ (by omega)).1, ← z]
        congr 1
        omega) tf_N 0 (by rw [x2, e1]; omega) (by unfold tf_N; omega)
      rw [x1, ho_c (fun i hi => (ht.1 i hi).1) h1 h2] at z
      exact z
    rw [kI _ (by rw [tu_row (by decide), tu_row (by decide), tu_row (by decide)]) (by rw [tu_row (by decide), tu_row (by decide), tu_row (by decide)]), td_bs, td_ls, td_ls, td_ls]
    have s8 : td_upd (td_upd E 19 (Int.toNat 0) a) 19 (Int.toNat 1) (al_o f h) 8 (Int.toNat 0) = Dc 2 9 := by
      rw [tu_row (by decide), tu_row (by decide), e8]
      exact s1
    rw [s8]
    generalize hY : td_upd (td_upd (td_upd (td_upd (td_upd (td_upd E 19 (Int.toNat 0) a) 19 (Int.toNat 1) (al_o f h)) 19 (Int.toNat 2) (Dc 2 9)) 19 (Int.toNat 3) (ho_o f h)) 19 (Int.toNat 4) h) 19 (Int.toNat 5) d = Y
    have Y19 : ∀ i : Nat, i < 6 → Y 19 i = td_upd D 20 (Int.toNat 0) a 20 i := by
      intro i hi
      rw [← hY]
      simp (disch := decide) only [tu_at, tu_row]
      have i6 : i = 0 ∨ i = 1 ∨ i = 2 ∨ i = 3 ∨ i = 4 ∨ i = 5 := by omega
      rcases i6 with rfl | rfl | rfl | rfl | rfl | rfl
      · rfl
      · show al_o f h = D 20 1
        exact n1.symm
      · show Dc 2 9 = D 20 2
        exact n2.symm
      · show ho_o f h = D 20 3
        exact n3.symm
      · show h = D 20 4
        exact n4.symm
      · show d = D 20 5
        exact n5.symm
    have Yo : ∀ r : Nat, r ≠ 19 → Y r = E r := fun r hr => by
      rw [← hY, tu_row hr, tu_row hr, tu_row hr, tu_row hr, tu_row hr, tu_row hr]
    have Do : ∀ r : Nat, r ≠ 20 → td_upd D 20 (Int.toNat 0) a r = D r := fun r hr => tu_row hr
    obtain ⟨r, D', E', g1, g2, g3, g4⟩ := lk_gives7 (D0 := td_upd D 20 (Int.toNat 0) a) (E0 := Y) q (by
      rw [Do q' (nq q' (Or.inl rfl)), Do (q' + 1) (nq _ (Or.inr (Or.inl rfl))), Do (q' + 2) (nq _ (Or.inr (Or.inr rfl))), Yo 14 (by decide), Yo 15 (by decide), Yo 16 (by decide), Yo 17 (by decide), Yo 18 (by decide)]
      exact w2) Y19
    rw [g1, g2, td_bs, td_bs]
    have cb := cl_b r
    refine ⟨cl_o r, D', E', ?_, ?_, cb.1, cb.2, fun x x1 x2 x3 => ?_, fun i hi => ?_, fun x x1 x2 => (g4 x x2).trans (Yo x x1)⟩
    · rw [cl_e]
    · unfold cl_o
      (repeat' split) <;> rfl
    · rw [g3 x (by omega), Do x x3]
    · rw [g3 20 (by omega), tu_at]
      exact tu_ne (f := D 20) (j := 0) hi
