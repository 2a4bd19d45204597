theorem cn_u {P Q : Nat → Bool} {j : Nat} (hj : P j = true) (hq : ¬ Q j = true) (he : ∀ i : Nat, i ≠ j → P i = Q i) : ∀ n : Nat, cn_o Q n = cn_o P n - if j < n then 1 else 0 := by
  intro n
  induction n with
  | zero => rfl
  | succ n ih =>
    show cn_o Q n + (if Q n then 1 else 0) = cn_o P n + (if P n then 1 else 0) - _
    rw [ih]
    by_cases c : n = j
    · subst c
      rw [if_pos hj, if_neg hq, if_neg (show ¬ n < n by omega), if_pos (show n < n + 1 by omega)]
      omega
    · rw [he n c]
      by_cases d : j < n
      · rw [if_pos d, if_pos (show j < n + 1 by omega)]
        omega
      · rw [if_neg d, if_neg (show ¬ j < n + 1 by omega)]
        omega
def op_o (E : td_D) : Int := cn_o (fun b => decide (E 29 b = 0)) 100
def bk_o (sf : Int) (w : Nat → Int) (b : Nat) : Prop := ¬ sf = 0 ∧ 0 < w b
/-- the ways as they stand while cells are fixed one by one -/
def dk_o (sf : Int) (w : Nat → Int) (fr : Nat) (E : td_D) : Prop :=
  (∀ b : Nat, b < 100 → E 26 b = w b) ∧ (∀ b : Nat, b < 100 → ve_o (100 - op_o E) E b) ∧ (∀ b : Nat, b < 100 → E 29 b = 0 ∨ E 29 b = 1) ∧ (∀ b : Nat, b < 100 → E 29 b = 1 → E 27 b ≠ 9999) ∧
  (∀ a b : Nat, a < 100 → b < 100 → E 29 a = 1 → E 29 b = 0 → pr_o E a ≤ pr_o E b) ∧
  (∀ a b : Nat, a < 100 → b < 100 → E 29 a = 1 → nb_o a b = true → ¬ bk_o sf w b → pr_o E b ≤ pr_o E a + w b * 1000 + 1) ∧
  (∀ b : Nat, b < 100 → E 27 b ≠ 9999 → b ≠ fr → ∃ a : Nat, a < 100 ∧ E 29 a = 1 ∧ nb_o a b = true ∧ ¬ bk_o sf w b ∧ pr_o E b = pr_o E a + w b * 1000 + 1) ∧
  pr_o E fr = 1000 * w fr ∧ (E 29 fr = 1 ∨ ∀ b : Nat, b < 100 → b ≠ fr → E 27 b = 9999)
theorem pr_b {K : Int} {E : td_D} {b : Nat} (K1 : K ≤ 900) (h : ve_o K E b) : (E 27 b = 9999 ∧ pr_o E b = 1000000000) ∨ (E 27 b ≠ 9999 ∧ 0 ≤ E 27 b ∧ E 27 b ≤ K ∧ 0 ≤ E 28 b ∧ E 28 b ≤ 5406 ∧ pr_o E b = 1000 * E 28 b + E 27 b) := by
  unfold ve_o at h
  rcases h with v | v
  · exact Or.inl ⟨v, if_pos v⟩
  · refine Or.inr ⟨by omega, v.1, by omega, by omega, by omega, ?_⟩
    unfold pr_o
    rw [if_neg (by omega)]
theorem nk_nb {c b : Nat} : nk_o 1 0 3 2 c 4 b = true ↔ nb_o c b = true := by
  rw [nk_y, nb_y]
  constructor <;> intro h <;> omega
theorem nb_nc {c b : Nat} (hc : c < 100) (h : nb_o c b = true) : b ≠ c := by
  rw [nb_y] at h
  intro e
  have k := fun t h => (bs_b (c := (c : Int)) (s := t) (by omega) (by omega) h).2.2
  rw [e] at h
  rcases h with h | h | h | h
  · exact k 0 (by omega) h
  · exact k 1 (by omega) h
  · exact k 2 (by omega) h
  · exact k 3 (by omega) h
theorem dk_it {sf : Int} {w : Nat → Int} {fr c : Nat} {E E' : td_D} (hw : ∀ b : Nat, b < 100 → 0 ≤ w b ∧ w b ≤ 6) (hfr : fr < 100) (h : dk_o sf w fr E) (hc : c < 100) (o : E 29 c = 0) (r : E 27 c ≠ 9999) (mn : ∀ b : Nat, b < 100 → E 29 b = 0 → pr_o E c ≤ pr_o E b) (wm : wm_o sf (100 - op_o E) c (td_upd E 29 c 1) E' 4) : dk_o sf w fr E' ∧ op_o E' = op_o E - 1 ∧ (∀ a : Nat, a < 100 → E 29 a = 1 → pr_o E' a = pr_o E a ∧ E' 29 a = 1) ∧ (∀ x : Nat, x ≠ 27 → x ≠ 28 → x ≠ 29 → E' x = E x) ∧ E' 29 c = 1 ∧ pr_o E' c = pr_o E c := by
  obtain ⟨i1, i2, i3, i4, i5, i6, i7, i8, i9⟩ := h
  obtain ⟨m1, m2, m3, m4⟩ := wm
  have opb := @cn_b (fun b => decide (E 29 b = 0)) 100
  have K1 : 100 - op_o E ≤ 900 := by unfold op_o; omega
  have e29 : E' 29 = tv_up (E 29) c 1 := by rw [m1 29 (by decide) (by decide), tu_at]
  have x27 : td_upd E 29 c 1 27 = E 27 := tu_row (by decide)
  have x28 : td_upd E 29 c 1 28 = E 28 := tu_row (by decide)
  have x26 : td_upd E 29 c 1 26 = E 26 := tu_row (by decide)
  have xp : ∀ b : Nat, pr_o (td_upd E 29 c 1) b = pr_o E b := fun b => by unfold pr_o; rw [x27, x28]
  have fx : ∀ b : Nat, E' 29 b = if b = c then 1 else E 29 b := fun b => by rw [e29]; rfl
  have opE : op_o E' = op_o E - 1 := by
    unfold op_o
    rw [cn_u (P := fun b => decide (E 29 b = 0)) (Q := fun b => decide (E' 29 b = 0)) (j := c) (decide_eq_true o) (fun z => by
      have z2 := of_decide_eq_true z
      rw [fx, if_pos rfl] at z2
      omega) (fun i hi => by rw [fx, if_neg hi]) 100, if_pos hc]
  have opE' : 100 - op_o E' = 100 - op_o E + 1 := by omega
  have pc := pr_b K1 (i2 c hc)
  -- what becomes of a price
  have D1 : ∀ b : Nat, b < 100 → (pr_o E' b = pr_o E b ∧ (nb_o c b = true → ¬ bk_o sf w b → pr_o E b ≤ pr_o E c + w b * 1000 + 1)) ∨ (nb_o c b = true ∧ ¬ bk_o sf w b ∧ pr_o E' b = pr_o E c + w b * 1000 + 1 ∧ pr_o E' b < pr_o E b) := by
    intro b hb
    have p := m2 b hb
    rw [xp b] at p
    by_cases n : nb_o c b = true
    · rw [if_pos (nk_nb.mpr n)] at p
      unfold rx_o at p
      rw [xp b, xp c, x26, i1 b hb] at p
      by_cases k : ¬ sf = 0 ∧ 0 < w b
      · rw [if_pos k] at p
        exact Or.inl ⟨p, fun _ z => (z k).elim⟩
      · rw [if_neg k] at p
        unfold tv_min at p
        by_cases l : pr_o E c + w b * 1000 + 1 < pr_o E b
        · rw [if_pos l] at p
          exact Or.inr ⟨n, k, p, by omega⟩
        · rw [if_neg l] at p
          exact Or.inl ⟨p, fun _ _ => by omega⟩
    · rw [if_neg (fun z => n (nk_nb.mp z))] at p
      exact Or.inl ⟨p, fun z => (n z).elim⟩
  have fixed : ∀ a : Nat, a < 100 → E 29 a = 1 → pr_o E' a = pr_o E a ∧ E' 29 a = 1 := by
    intro a ha h1
    have le := i5 a c ha hc h1 o
    have wb := hw a ha
    refine ⟨?_, ?_⟩
    · rcases D1 a ha with d | d
      · exact d.1
      · omega
    · rw [fx]
      split <;> first | rfl | exact h1
  have pcc : pr_o E' c = pr_o E c := by
    rcases D1 c hc with d | d
    · exact d.1
    · exact (nb_nc hc d.1 rfl).elim
  have c1 : E' 29 c = 1 := by rw [fx, if_pos rfl]
  have v' : ∀ b : Nat, b < 100 → ve_o (100 - op_o E') E' b := fun b hb => by rw [opE']; exact m3 b hb
  have opb' := @cn_b (fun b => decide (E' 29 b = 0)) 100
  have K1' : 100 - op_o E' ≤ 900 := by
    have e : op_o E' = cn_o (fun b => decide (E' 29 b = 0)) 100 := rfl
    omega
  refine ⟨⟨fun b hb => ?_, v', fun b hb => ?_, fun b hb h1 => ?_, fun a b ha hb h1 h2 => ?_, fun a b ha hb h1 h2 h3 => ?_, fun b hb h1 h2 => ?_, ?_, ?_⟩, opE, fixed, fun x x1 x2 x3 => (m1 x x1 x2).trans (tu_row x3), c1, pcc⟩
  · rw [m1 26 (by decide) (by decide), x26]
    exact i1 b hb
  · rw [fx]
    split
    · exact Or.inr rfl
    · exact i3 b hb
  · have pb := pr_b K1' (v' b hb)
    have pb0 := pr_b K1 (i2 b hb)
    rw [fx] at h1
    by_cases z : b = c
    · subst z
      omega
    · rw [if_neg z] at h1
      have x := i4 b hb h1
      have y := fixed b hb h1
      omega
  · rw [fx] at h1 h2
    by_cases z2 : b = c
    · rw [if_pos z2] at h2; omega
    · rw [if_neg z2] at h2
      have lb := mn b hb h2
      have wb := hw b hb
      by_cases z : a = c
      · subst z
        rw [pcc]
        rcases D1 b hb with d | d <;> omega
      · rw [if_neg z] at h1
        have y := fixed a ha h1
        have l1 := i5 a b ha hb h1 h2
        have l2 := i5 a c ha hc h1 o
        rw [y.1]
        rcases D1 b hb with d | d <;> omega
  · rw [fx] at h1
    by_cases z : a = c
    · subst z
      rw [pcc]
      rcases D1 b hb with d | d
      · rw [d.1]
        exact d.2 h2 h3
      · omega
    · rw [if_neg z] at h1
      have y := fixed a ha h1
      have l := i6 a b ha hb h1 h2 h3
      rw [y.1]
      rcases D1 b hb with d | d <;> omega
  · have pb := pr_b K1' (v' b hb)
    rcases D1 b hb with d | d
    · have pb0 := pr_b K1 (i2 b hb)
      obtain ⟨a, a1, a2, a3, a4, a5⟩ := i7 b hb (by omega) h2
      have y := fixed a a1 a2
      exact ⟨a, a1, y.2, a3, a4, by omega⟩
    · exact ⟨c, hc, c1, d.1, d.2.1, by rw [pcc]; exact d.2.2.1⟩
  · rcases i9 with f | f
    · rw [(fixed fr hfr f).1]
      exact i8
    · have cf : c = fr := by
        apply Decidable.byContradiction
        intro z
        exact r (f c hc z)
      subst cf
      rw [pcc]
      exact i8
  · left
    rcases i9 with f | f
    · exact (fixed fr hfr f).2
    · have cf : c = fr := by
        apply Decidable.byContradiction
        intro z
        exact r (f c hc z)
      subst cf
      exact c1
theorem fm_nearest {sf : Int} {w : Nat → Int} {fr : Nat} {E : td_D} (h : dk_o sf w fr E) : ∃ q : Int, F_X12_nearest E = some (q, E) ∧ ne_o E q := by
  have opb := @cn_b (fun b => decide (E 29 b = 0)) 100
  have e : op_o E = cn_o (fun b => decide (E 29 b = 0)) 100 := rfl
  obtain ⟨q, q1, q2⟩ := fm_near (K := 100 - op_o E) (by omega) h.2.1 tf_N (-1) 0 (by omega) (by omega) (by unfold tf_N; omega) (Or.inl ⟨rfl, fun b hb => by omega⟩)
  refine ⟨q, ?_, q2⟩
  unfold F_X12_nearest
  exact q1
theorem dk_run {sf : Int} {w : Nat → Int} {fr : Nat} (hw : ∀ b : Nat, b < 100 → 0 ≤ w b ∧ w b ≤ 6) (hfr : fr < 100) : ∀ (n m : Nat) (r : Int) (E : td_D), op_o E = (n : Int) → n < m → dk_o sf w fr E → ne_o E r → ∃ E' : td_D, F_X12_goWays_72 m sf r E = some (0, E') ∧ dk_o sf w fr E' ∧ (∀ b : Nat, b < 100 → E' 29 b = 0 → E' 27 b = 9999) ∧ (∀ a : Nat, a < 100 → E 29 a = 1 → pr_o E' a = pr_o E a ∧ E' 29 a = 1) ∧ ∀ x : Nat, x ≠ 27 → x ≠ 28 → x ≠ 29 → E' x = E x := by
  intro n
  induction n with
  | zero =>
    intro m r E h1 h2 dk ne
    obtain ⟨m', rfl⟩ : ∃ m' : Nat, m = m' + 1 := ⟨m - 1, by omega⟩
    rcases ne with ⟨a1, a2⟩ | ⟨a1, a2, a3, a4, a5⟩
    · unfold F_X12_goWays_72
      rw [if_pos (by omega)]
      exact ⟨E, rfl, dk, a2, fun a ha h => ⟨rfl, h⟩, fun _ _ _ _ => rfl⟩
    · exfalso
      have z := cn_u (P := fun b => decide (E 29 b = 0)) (Q := fun b => if b = r.toNat then false else decide (E 29 b = 0)) (j := r.toNat) (decide_eq_true a3) (by simp) (fun i hi => by simp only [if_neg hi]) 100
      have b := @cn_b (fun b => if b = r.toNat then false else decide (E 29 b = 0)) 100
      rw [if_pos (show r.toNat < 100 by omega)] at z
      have e : op_o E = cn_o (fun b => decide (E 29 b = 0)) 100 := rfl
      omega
  | succ n ih =>
    intro m r E h1 h2 dk ne
    obtain ⟨m', rfl⟩ : ∃ m' : Nat, m = m' + 1 := ⟨m - 1, by omega⟩
    rcases ne with ⟨a1, a2⟩ | ⟨a1, a2, a3, a4, a5⟩
    · unfold F_X12_goWays_72
      rw [if_pos (by omega)]
      exact ⟨E, rfl, dk, a2, fun a ha h => ⟨rfl, h⟩, fun _ _ _ _ => rfl⟩
    · obtain ⟨E1, b1, b2⟩ := fm_body (sf := sf) (K := 100 - op_o E) (c := r.toNat) (E0 := E) (by omega) (by omega) (fun b hb => by rw [dk.1 b hb]; exact hw b hb) dk.2.1 a4 m'
      obtain ⟨d1, d2, d3, d4, d5, d6⟩ := dk_it hw hfr dk (show r.toNat < 100 by omega) a3 a4 (fun b hb ho => (a5 b hb ho).1) b2
      obtain ⟨q, q1, q2⟩ := fm_nearest d1
      obtain ⟨E', e1, e2, e3, e4, e5⟩ := ih m' q E1 (by omega) (by omega) d1 q2
      rw [show ((r.toNat : Nat) : Int) = r by omega] at b1
      rw [b1, q1, td_bs]
      exact ⟨E', e1, e2, e3, fun a ha h => by
        have x := d3 a ha h
        have y := e4 a ha x.2
        exact ⟨y.1.trans x.1, y.2⟩, fun x x1 x2 x3 => (e5 x x1 x2 x3).trans (d4 x x1 x2 x3)⟩
/-- every cell can be reached, if none is closed -/
theorem nb_r {a : Nat} (h : a % 10 < 9) : nb_o a (a + 1) = true := by
  rw [nb_y]
  left
  rw [show bs_o (a : Int) 0 = (if (a : Int) % 10 = 9 then -1 else (a : Int) + 1) from rfl, if_neg (by omega)]
  omega
theorem nb_l {a b : Nat} (h : 0 < a % 10) (e : b + 1 = a) : nb_o a b = true := by
  rw [nb_y]
  right; left
  rw [show bs_o (a : Int) 1 = (if (a : Int) % 10 = 0 then -1 else (a : Int) - 1) from rfl, if_neg (by omega)]
  omega
theorem nb_d {a : Nat} (h : a < 90) : nb_o a (a + 10) = true := by
  rw [nb_y]
  right; right; left
  rw [show bs_o (a : Int) 2 = (if 90 ≤ (a : Int) then -1 else (a : Int) + 10) from rfl, if_neg (by omega)]
  omega
theorem nb_u {a b : Nat} (e : b + 10 = a) : nb_o a b = true := by
  rw [nb_y]
  right; right; right
  rw [show bs_o (a : Int) 3 = (if (a : Int) < 10 then -1 else (a : Int) - 10) from rfl, if_neg (by omega)]
  omega
theorem all_rc {R : Nat → Prop} {fr : Nat} (hfr : fr < 100) (h : R fr) (cl : ∀ a b : Nat, a < 100 → b < 100 → R a → nb_o a b = true → R b) : ∀ b : Nat, b < 100 → R b := by
  have left : ∀ k : Nat, k ≤ fr % 10 → R (fr - k) := by
    intro k
    induction k with
    | zero => intro _; exact h
    | succ k ih =>
      intro hk
      exact cl (fr - k) (fr - (k + 1)) (by omega) (by omega) (ih (by omega)) (nb_l (by omega) (by omega))
  have row : ∀ k : Nat, k ≤ 9 → R (fr - fr % 10 + k) := by
    intro k
    induction k with
    | zero => intro _; exact left _ (Nat.le_refl _)
    | succ k ih =>
      intro hk
      exact cl (fr - fr % 10 + k) (fr - fr % 10 + (k + 1)) (by omega) (by omega) (ih (by omega)) (nb_r (by omega))
  have up : ∀ j : Nat, j ≤ fr / 10 → ∀ k : Nat, k ≤ 9 → R (fr - fr % 10 - 10 * j + k) := by
    intro j
    induction j with
    | zero => intro _ k hk; exact row k hk
    | succ j ih =>
      intro hj k hk
      exact cl (fr - fr % 10 - 10 * j + k) _ (by omega) (by omega) (ih (by omega) k hk) (nb_u (by omega))
  have down : ∀ j : Nat, j ≤ 9 → ∀ k : Nat, k ≤ 9 → R (10 * j + k) := by
    intro j
    induction j with
    | zero =>
      intro _ k hk
      have x := up (fr / 10) (Nat.le_refl _) k hk
      rw [show fr - fr % 10 - 10 * (fr / 10) + k = 10 * 0 + k by omega] at x
      exact x
    | succ j ih =>
      intro hj k hk
      have x := cl (10 * j + k) (10 * j + k + 10) (by omega) (by omega) (ih (by omega) k hk) (nb_d (by omega))
      rw [show 10 * j + k + 10 = 10 * (j + 1) + k by omega] at x
      exact x
  intro b hb
  have x := down (b / 10) (by omega) (b % 10) (by omega)
  rw [show 10 * (b / 10) + b % 10 = b by omega] at x
  exact x
theorem dk_all {w : Nat → Int} {fr : Nat} {E : td_D} (hw : ∀ b : Nat, b < 100 → 0 ≤ w b ∧ w b ≤ 6) (hfr : fr < 100) (h : dk_o 0 w fr E) (fin : ∀ b : Nat, b < 100 → E 29 b = 0 → E 27 b = 9999) : ∀ b : Nat, b < 100 → E 27 b ≠ 9999 := by
  obtain ⟨i1, i2, i3, i4, i5, i6, i7, i8, i9⟩ := h
  have opb := @cn_b (fun b => decide (E 29 b = 0)) 100
  have e : op_o E = cn_o (fun b => decide (E 29 b = 0)) 100 := rfl
  refine all_rc hfr ?_ (fun a b ha hb ra n => ?_)
  · have p := pr_b (by omega) (i2 fr hfr)
    have wb := hw fr hfr
    omega
  · have fa : E 29 a = 1 := by
      rcases i3 a ha with z | z
      · exact (ra (fin a ha z)).elim
      · exact z
    have l := i6 a b ha hb fa n (fun z => z.1 rfl)
    have p := pr_b (by omega) (i2 a ha)
    have q := pr_b (by omega) (i2 b hb)
    have wb := hw b hb
    omega
