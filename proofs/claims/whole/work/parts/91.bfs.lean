/-- ways by rings outward: R: steps, -1: not seen; Q: those seen, in the order in which they were -/
def bq_o (S : Nat → Prop) (fr i n : Nat) (R Q : Nat → Int) : Prop :=
  ((n : Int) = cn_o (fun b => decide (R b ≠ -1)) 100) ∧
  (∀ j : Nat, j < n → 0 ≤ Q j ∧ Q j < 100 ∧ R (Q j).toNat ≠ -1 ∧ R (Q j).toNat ≤ (j : Int)) ∧
  (∀ b : Nat, b < 100 → R b ≠ -1 → ∃ j : Nat, j < n ∧ Q j = (b : Int)) ∧
  (∀ j k : Nat, j ≤ k → k < n → R (Q j).toNat ≤ R (Q k).toNat) ∧
  (i < n → ∀ k : Nat, k < n → R (Q k).toNat ≤ R (Q i).toNat + 1) ∧
  (∀ j : Nat, j < i → j < n → ∀ b : Nat, b < 100 → nb_o (Q j).toNat b = true → S b → R b ≠ -1 ∧ R b ≤ R (Q j).toNat + 1) ∧
  (∀ b : Nat, b < 100 → R b ≠ -1 → b ≠ fr → ∃ a : Nat, a < 100 ∧ R a ≠ -1 ∧ nb_o a b = true ∧ S b ∧ R b = R a + 1) ∧
  R fr = 0 ∧ (∀ b : Nat, b < 100 → -1 ≤ R b) ∧ 0 < n
theorem bq_n {S : Nat → Prop} {fr i n : Nat} {R Q : Nat → Int} (h : bq_o S fr i n R Q) : n ≤ 100 := by
  have b := @cn_b (fun b => decide (R b ≠ -1)) 100
  have z := h.1
  omega
theorem bq_add {S : Nat → Prop} {fr i n b : Nat} {R Q : Nat → Int} (h : bq_o S fr i n R Q) (hi : i < n) (hb : b < 100) (rb : R b = -1) (nb : nb_o (Q i).toNat b = true) (sb : S b) (hfr : fr < 100) : n < 100 ∧ bq_o S fr i (n + 1) (tv_up R b (R (Q i).toNat + 1)) (tv_up Q n (b : Int)) := by
  obtain ⟨h1, h2, h3, h4, h5, h6, h7, h8, h9, h10⟩ := h
  have qi := h2 i hi
  have ri := h9 (Q i).toNat (by omega)
  generalize hv : R (Q i).toNat + 1 = v at *
  have U : ∀ x : Nat, R x ≠ -1 → tv_up R b v x = R x := fun x hx => by
    unfold tv_up
    rw [if_neg (fun z => hx (by rw [z]; exact rb))]
  have Ub : tv_up R b v b = v := tu_same
  have Qo : ∀ j : Nat, j < n → tv_up Q n (b : Int) j = Q j := fun j hj => tu_ne (by omega)
  have Qn : tv_up Q n (b : Int) n = (b : Int) := tu_same
  have UQ : ∀ j : Nat, j < n → tv_up R b v (tv_up Q n (b : Int) j).toNat = R (Q j).toNat := fun j hj => by
    rw [Qo j hj]
    exact U _ (h2 j hj).2.2.1
  have UQn : tv_up R b v (tv_up Q n (b : Int) n).toNat = v := by
    rw [Qn, Int.toNat_natCast, Ub]
  have keep : ∀ x : Nat, x ≠ b → tv_up R b v x = R x := fun x hx => tu_ne hx
  have cn := cn_u (P := fun x => decide (tv_up R b v x ≠ -1)) (Q := fun x => decide (R x ≠ -1)) (j := b) (decide_eq_true (by rw [Ub]; omega)) (fun z => of_decide_eq_true z rb) (fun x hx => by rw [keep x hx]) 100
  rw [if_pos hb] at cn
  have bd := @cn_b (fun x => decide (tv_up R b v x ≠ -1)) 100
  refine ⟨by omega, by omega, fun j hj => ?_, fun x hx rx => ?_, fun j k jk kn => ?_, fun hi2 k kn => ?_, fun j ji jn x hx nx sx => ?_, fun x hx rx fx => ?_, ?_, fun x hx => ?_, by omega⟩
  · by_cases z : j = n
    · subst z
      rw [UQn, Qn]
      omega
    · rw [UQ j (by omega), Qo j (by omega)]
      exact h2 j (by omega)
  · by_cases z : x = b
    · subst z
      exact ⟨n, by omega, Qn⟩
    · rw [keep x z] at rx
      obtain ⟨j, j1, j2⟩ := h3 x hx rx
      exact ⟨j, by omega, by rw [Qo j j1]; exact j2⟩
  · by_cases z : k = n
    · subst z
      rw [UQn]
      by_cases z2 : j = k
      · subst z2
        rw [UQn]
        exact Int.le_refl _
      · rw [UQ j (by omega)]
        have x := h5 hi j (by omega)
        omega
    · rw [UQ j (by omega), UQ k (by omega)]
      exact h4 j k jk (by omega)
  · rw [UQ i hi]
    by_cases z : k = n
    · subst z
      rw [UQn]
      omega
    · rw [UQ k (by omega)]
      have x := h5 hi k (by omega)
      omega
  · rw [UQ j (by omega)]
    rw [Qo j (by omega)] at nx
    have y := h6 j ji (by omega) x hx nx sx
    rw [U x y.1]
    exact y
  · by_cases z : x = b
    · subst z
      refine ⟨(Q i).toNat, by omega, ?_, nb, sb, ?_⟩
      · rw [U _ qi.2.2.1]
        exact qi.2.2.1
      · rw [Ub, U _ qi.2.2.1]
        exact hv.symm
    · rw [keep x z] at rx ⊢
      obtain ⟨a, a1, a2, a3, a4, a5⟩ := h7 x hx rx fx
      exact ⟨a, a1, by rw [U a a2]; exact a2, a3, a4, by rw [U a a2]; exact a5⟩
  · rw [U fr (by omega)]
    exact h8
  · by_cases z : x = b
    · subst z
      rw [Ub]
      omega
    · rw [keep x z]
      exact h9 x hx
theorem fe_safe {b mo fa : Int} {D : td_D} (b1 : 0 ≤ b) (b2 : b < 100) (m1 : 0 ≤ mo) (m2 : mo ≤ 99) : F_X10_isSafe b mo fa D = some (tv_tf (D 24 b.toNat = 0 ∧ fa < da_o b mo), D) := by
  unfold F_X10_isSafe
  rw [if_pos (by omega)]
  by_cases z : D 24 b.toNat = 0
  · rw [if_pos z, fe_apart b1 (by omega) m1 m2, td_bs]
    unfold tv_tf
    (repeat' split) <;> first | rfl | omega
  · rw [if_neg z, tf_f (by omega)]
/-- what is safe for the component -/
def sa_o (w : Nat → Int) (mo fa : Int) (b : Nat) : Prop := w b = 0 ∧ fa < da_o (b : Int) mo
theorem fe_spread {w : Nat → Int} {mo fa : Int} {fr i c : Nat} (m1 : 0 ≤ mo) (m2 : mo ≤ 99) (hfr : fr < 100) (hc : c < 100) : ∀ (m : Nat) (s : Int) (n : Nat) (D : td_D), 0 ≤ s → s ≤ 4 → 4 - s < m → D 24 = w → bq_o (sa_o w mo fa) fr i n (D 25) (D 26) → i < n → D 26 i = (c : Int) → (∀ b : Nat, b < 100 → nk_o 0 1 2 3 c s b = true → sa_o w mo fa b → D 25 b ≠ -1 ∧ D 25 b ≤ D 25 c + 1) → ∃ (n' : Nat) (D' : td_D), F_X10_spread_6 m (c : Int) mo fa (n : Int) s D = some ((n' : Int), D') ∧ (∀ x : Nat, x ≠ 25 → x ≠ 26 → D' x = D x) ∧ bq_o (sa_o w mo fa) fr (i + 1) n' (D' 25) (D' 26) ∧ n ≤ n' := by
  intro m
  induction m with
  | zero => intro s n D q1 q2 q3; omega
  | succ m ih =>
    intro s n D q1 q2 q3 h24 bq hi hq done
    have n100 := bq_n bq
    unfold F_X10_spread_6
    by_cases z : 4 ≤ s
    · rw [if_pos z]
      refine ⟨n, D, rfl, fun _ _ _ => rfl, ?_, Nat.le_refl _⟩
      obtain ⟨h1, h2, h3, h4, h5, h6, h7, h8, h9, h10⟩ := bq
      refine ⟨h1, h2, h3, h4, fun hi2 k kn => ?_, fun j ji jn b hb nb sb => ?_, h7, h8, h9, h10⟩
      · have x := h5 hi k kn
        have y := h4 i (i + 1) (by omega) hi2
        omega
      · by_cases e : j = i
        · subst e
          rw [hq, Int.toNat_natCast] at nb ⊢
          refine done b hb ?_ sb
          rw [nk_y]
          rw [nb_y] at nb
          omega
        · exact h6 j (by omega) jn b hb nb sb
    · have s4 : s = 0 ∨ s = 1 ∨ s = 2 ∨ s = 3 := by omega
      have nx : ∀ b : Nat, nk_o 0 1 2 3 c (s + 1) b = true ↔ (nk_o 0 1 2 3 c s b = true ∨ bs_o c s = (b : Int)) := by
        intro b
        rw [nk_y, nk_y]
        rcases s4 with rfl | rfl | rfl | rfl <;> (constructor <;> intro h <;> omega)
      rw [if_neg z, fe_beside (by omega) (by omega) q1 (by omega), td_bs, tw_s (a := s + 1) (by omega) (by omega)]
      by_cases r1 : bs_o c s = -1
      · rw [if_pos r1]
        refine ih (s + 1) n D (by omega) (by omega) (by omega) h24 bq hi hq (fun b hb nk sb => ?_)
        rcases (nx b).mp nk with h | h
        · exact done b hb h sb
        · omega
      · obtain ⟨g1, g2, g3⟩ := bs_b (c := (c : Int)) (by omega) (by omega) r1
        obtain ⟨b0, hb0⟩ : ∃ b0 : Nat, (b0 : Int) = bs_o c s := ⟨(bs_o c s).toNat, by omega⟩
        have nb0 : nb_o c b0 = true := by
          rw [nb_y, hb0]
          rcases s4 with rfl | rfl | rfl | rfl
          · exact Or.inl rfl
          · exact Or.inr (Or.inl rfl)
          · exact Or.inr (Or.inr (Or.inl rfl))
          · exact Or.inr (Or.inr (Or.inr rfl))
        rw [if_neg r1, ← hb0, if_pos (by omega), Int.toNat_natCast]
        by_cases u : D 25 b0 = -1
        · rw [if_pos u, fe_safe (by omega) (by omega) m1 m2, td_bs, Int.toNat_natCast, h24]
          by_cases sf : w b0 = 0 ∧ fa < da_o (b0 : Int) mo
          · have nbq : nb_o (D 26 i).toNat b0 = true := by rw [hq, Int.toNat_natCast]; exact nb0
            obtain ⟨a1, a2⟩ := bq_add bq hi (by omega) u nbq sf hfr
            have qi := bq.2.1 i hi
            rw [hq, Int.toNat_natCast] at a2 qi
            have ri := bq.2.2.2.2.2.2.2.2.1 c hc
            rw [tf_t sf, if_neg (by decide), if_neg (show ¬ (100 : Int) ≤ (n : Int) by omega), if_pos (by omega), td_ls, if_pos (by omega), td_ls, Int.toNat_natCast, Int.toNat_natCast, tw_s (a := D 25 c + 1) (by omega) (by omega), tw_s (a := (n : Int) + 1) (by omega) (by omega), show (n : Int) + 1 = ((n + 1 : Nat) : Int) by omega]
            have x25 : td_upd (td_upd D 25 b0 (D 25 c + 1)) 26 n (b0 : Int) 25 = tv_up (D 25) b0 (D 25 c + 1) := by rw [tu_row (by decide), tu_at]
            have x26 : td_upd (td_upd D 25 b0 (D 25 c + 1)) 26 n (b0 : Int) 26 = tv_up (D 26) n (b0 : Int) := by rw [tu_at, tu_row (by decide)]
            have cb0 : c ≠ b0 := fun e => by rw [e] at qi; exact qi.2.2.1 u
            obtain ⟨n', D', e1, e2, e3, e4⟩ := ih (s + 1) (n + 1) (td_upd (td_upd D 25 b0 (D 25 c + 1)) 26 n (b0 : Int)) (by omega) (by omega) (by omega) (by rw [tu_row (by decide), tu_row (by decide)]; exact h24) (by rw [x25, x26]; exact a2) (by omega) (by rw [x26, tu_ne (by omega)]; exact hq) (fun b hb nk sb => by
              rw [x25, tu_ne (f := D 25) (i := c) cb0]
              unfold tv_up
              by_cases e : b = b0
              · rw [if_pos e]
                omega
              · rw [if_neg e]
                rcases (nx b).mp nk with h | h
                · exact done b hb h sb
                · omega)
            exact ⟨n', D', e1, fun x x1 x2 => (e2 x x1 x2).trans (by rw [tu_row x2, tu_row x1]), e3, by omega⟩
          · rw [tf_f sf, if_pos rfl]
            refine ih (s + 1) n D (by omega) (by omega) (by omega) h24 bq hi hq (fun b hb nk sb => ?_)
            rcases (nx b).mp nk with h | h
            · exact done b hb h sb
            · exfalso
              have e : b = b0 := by omega
              rw [e] at sb
              exact sf sb
        · rw [if_neg u]
          refine ih (s + 1) n D (by omega) (by omega) (by omega) h24 bq hi hq (fun b hb nk sb => ?_)
          rcases (nx b).mp nk with h | h
          · exact done b hb h sb
          · have e : b = b0 := by omega
            subst e
            refine ⟨u, ?_⟩
            obtain ⟨j, j1, j2⟩ := bq.2.2.1 b hb u
            have x := bq.2.2.2.2.1 hi j j1
            rw [j2, hq, Int.toNat_natCast, Int.toNat_natCast] at x
            exact x
theorem fe_bfs {w : Nat → Int} {mo fa : Int} {fr to : Nat} (m1 : 0 ≤ mo) (m2 : mo ≤ 99) (hfr : fr < 100) (hto : to < 100) : ∀ (m : Nat) (i n : Nat) (D : td_D), i ≤ 100 → 100 - i < m → D 24 = w → bq_o (sa_o w mo fa) fr i n (D 25) (D 26) → ∃ (i' n' : Nat) (D' : td_D), F_X10_steps_69 m (to : Int) mo fa (n : Int) (i : Int) D = some (if D' 25 to = -1 then -2 else D' 25 to, D') ∧ (∀ x : Nat, x ≠ 25 → x ≠ 26 → D' x = D x) ∧ bq_o (sa_o w mo fa) fr i' n' (D' 25) (D' 26) ∧ (D' 25 to ≠ -1 ∨ n' ≤ i') := by
  have t100 : 0 ≤ (to : Int) ∧ (to : Int) < ((100 : Nat) : Int) := by omega
  have fin : ∀ D : td_D, F_X10_steps_117 (to : Int) D = some (if D 25 to = -1 then -2 else D 25 to, D) := by
    intro D
    unfold F_X10_steps_117
    rw [if_pos t100, Int.toNat_natCast]
    split <;> rfl
  intro m
  induction m with
  | zero => intro i n D q1 q2; omega
  | succ m ih =>
    intro i n D q1 q2 h24 bq
    have n100 := bq_n bq
    unfold F_X10_steps_69
    by_cases c : (100 : Int) ≤ (i : Int)
    · rw [if_pos c, fin]
      exact ⟨i, n, D, rfl, fun _ _ _ => rfl, bq, Or.inr (by omega)⟩
    · rw [if_neg c]
      by_cases c2 : (n : Int) ≤ (i : Int)
      · rw [if_pos c2, fin]
        exact ⟨i, n, D, rfl, fun _ _ _ => rfl, bq, Or.inr (by omega)⟩
      · rw [if_neg c2, if_pos t100, Int.toNat_natCast]
        by_cases u : D 25 to = -1
        · have qi := bq.2.1 i (by omega)
          obtain ⟨c0, hc0⟩ : ∃ c0 : Nat, (c0 : Int) = D 26 i := ⟨(D 26 i).toNat, by omega⟩
          obtain ⟨n', D1, e1, e2, e3, e4⟩ := fe_spread (c := c0) (i := i) m1 m2 hfr (by omega) tf_N 0 n D (by omega) (by omega) (by unfold tf_N; omega) h24 bq (by omega) hc0.symm (fun b hb nk _ => by rw [nk_y] at nk; omega)
          have SP : F_X10_spread (D 26 i) (n : Int) mo fa D = some ((n' : Int), D1) := by
            unfold F_X10_spread
            rw [← hc0]
            exact e1
          rw [if_pos u, if_pos (by omega), Int.toNat_natCast, SP, td_bs, tw_s (a := (i : Int) + 1) (by omega) (by omega), show (i : Int) + 1 = ((i + 1 : Nat) : Int) by omega]
          obtain ⟨i', n2, D', g1, g2, g3, g4⟩ := ih (i + 1) n' D1 (by omega) (by omega) (by rw [e2 24 (by decide) (by decide)]; exact h24) e3
          exact ⟨i', n2, D', g1, fun x x1 x2 => (g2 x x1 x2).trans (e2 x x1 x2), g3, g4⟩
        · rw [if_neg u, fin]
          exact ⟨i, n, D, rfl, fun _ _ _ => rfl, bq, Or.inl u⟩
theorem fe_bini {mo fa : Int} {fr to : Nat} (hfr : fr < 100) : ∀ (m : Nat) (v : Int) (D : td_D), 0 ≤ v → v ≤ 100 → 100 - v < m → (∀ b : Nat, (b : Int) < v → D 25 b = -1) → ∃ D' : td_D, F_X10_steps_28 m (fr : Int) (to : Int) mo fa v D = F_X10_steps_69 tf_N (to : Int) mo fa 1 0 D' ∧ (∀ x : Nat, x ≠ 25 → x ≠ 26 → D' x = D x) ∧ (∀ b : Nat, b < 100 → D' 25 b = if b = fr then 0 else -1) ∧ D' 26 0 = (fr : Int) := by
  intro m
  induction m with
  | zero => intro v E q1 q2 q3; omega
  | succ m ih =>
    intro v D q1 q2 q3 h
    unfold F_X10_steps_28
    by_cases c : 100 ≤ v
    · rw [if_pos c, if_pos (by omega), td_ls, td_ls, Int.toNat_natCast]
      refine ⟨_, rfl, fun x x1 x2 => by rw [tu_row x2, tu_row x1], fun b hb => ?_, by rw [tu_at]; rfl⟩
      rw [tu_row (by decide), tu_at]
      unfold tv_up
      by_cases z : b = fr
      · rw [if_pos z, if_pos z]
      · rw [if_neg z, if_neg z]
        exact h b (by omega)
    · rw [if_neg c, if_pos (by omega), td_ls, tw_s (a := v + 1) (by omega) (by omega)]
      obtain ⟨D', e1, e2, e3, e4⟩ := ih (v + 1) (td_upd D 25 v.toNat (-1)) (by omega) (by omega) (by omega) (fun b hb => by
        rw [tu_at]
        unfold tv_up
        split
        · rfl
        · exact h b (by omega))
      exact ⟨D', e1, fun x x1 x2 => (e2 x x1 x2).trans (tu_row x1), e3, e4⟩
theorem bq_0 {S : Nat → Prop} {fr : Nat} {R Q : Nat → Int} (hfr : fr < 100) (hR : ∀ b : Nat, b < 100 → R b = if b = fr then 0 else -1) (hQ : Q 0 = (fr : Int)) : bq_o S fr 0 1 R Q := by
  have rf : R fr = 0 := by rw [hR fr hfr, if_pos rfl]
  have q0 : ∀ j : Nat, j < 1 → (Q j).toNat = fr := fun j hj => by
    rw [show j = 0 by omega, hQ, Int.toNat_natCast]
  have cn := cn_u (P := fun x => decide (R x ≠ -1)) (Q := fun x => if x = fr then false else decide (R x ≠ -1)) (j := fr) (decide_eq_true (by rw [rf]; decide)) (by simp) (fun i hi => by simp only [if_neg hi]) 100
  have c0 : ∀ n : Nat, n ≤ 100 → cn_o (fun x => if x = fr then false else decide (R x ≠ -1)) n = 0 := by
    intro n
    induction n with
    | zero => intro _; rfl
    | succ n ih =>
      intro hn
      rw [cn_f (fun z => by
        by_cases e : n = fr
        · simp only [if_pos e] at z
          cases z
        · simp only [if_neg e] at z
          have z2 := of_decide_eq_true z
          rw [hR n (by omega), if_neg e] at z2
          exact z2 rfl)]
      exact ih (by omega)
  rw [if_pos hfr, c0 100 (Nat.le_refl _)] at cn
  refine ⟨by omega, fun j hj => ?_, fun b hb rb => ?_, fun j k jk kn => ?_, fun _ k kn => ?_, fun j ji => by omega, fun b hb rb fb => ?_, rf, fun b hb => ?_, by omega⟩
  · rw [q0 j hj, rf, show j = 0 by omega, hQ]
    omega
  · rw [hR b hb] at rb
    by_cases e : b = fr
    · exact ⟨0, by omega, by rw [hQ, e]⟩
    · rw [if_neg e] at rb
      exact (rb rfl).elim
  · rw [q0 j (by omega), q0 k kn]
    exact Int.le_refl _
  · rw [q0 0 (by omega), q0 k kn]
    omega
  · rw [hR b hb, if_neg fb] at rb
    exact (rb rfl).elim
  · rw [hR b hb]
    split <;> omega
/-- both ways of finding fewest steps agree -/
theorem bf_dk {S : Nat → Prop} {w : Nat → Int} {fr to i n : Nat} {R Q : Nat → Int} {E : td_D} (hw : ∀ b : Nat, b < 100 → 0 ≤ w b) (hfr : fr < 100) (hto : to < 100) (hS : ∀ b : Nat, b < 100 → (S b ↔ w b = 0)) (sfr : S fr) (bq : bq_o S fr i n R Q) (ends : R to ≠ -1 ∨ n ≤ i) (dk : dk_o 1 w fr E) (fin : ∀ b : Nat, b < 100 → E 29 b = 0 → E 27 b = 9999) : (if R to = -1 then (-2 : Int) else R to) = if E 27 to = 9999 then -2 else E 27 to := by
  obtain ⟨h1, h2, h3, h4, h5, h6, h7, h8, h9, h10⟩ := id bq
  obtain ⟨i1, i2, i3, i4, i5, i6, i7, i8, i9⟩ := dk
  have n100 := bq_n bq
  have opb := @cn_b (fun b => decide (E 29 b = 0)) 100
  have ope : op_o E = cn_o (fun b => decide (E 29 b = 0)) 100 := rfl
  have PB : ∀ b : Nat, b < 100 → (E 27 b = 9999 ∧ pr_o E b = 1000000000) ∨ (E 27 b ≠ 9999 ∧ 0 ≤ E 27 b ∧ E 27 b ≤ 100 - op_o E ∧ 0 ≤ E 28 b ∧ E 28 b ≤ 5406 ∧ pr_o E b = 1000 * E 28 b + E 27 b) := fun b hb => pr_b (by omega) (i2 b hb)
  have fx : ∀ b : Nat, b < 100 → E 27 b ≠ 9999 → E 29 b = 1 := fun b hb h => by
    rcases i3 b hb with z | z
    · exact (h (fin b hb z)).elim
    · exact z
  have w0 : w fr = 0 := (hS fr hfr).mp sfr
  have pfr : pr_o E fr = 0 := by rw [i8, w0]; rfl
  -- what is seen is reached, and as near
  have A : ∀ (k b : Nat), b < 100 → R b ≠ -1 → R b = (k : Int) → pr_o E b ≤ (k : Int) := by
    intro k
    induction k with
    | zero =>
      intro b hb rb e
      by_cases z : b = fr
      · rw [z, pfr]; omega
      · obtain ⟨a, a1, a2, a3, a4, a5⟩ := h7 b hb rb z
        have x := h9 a a1
        omega
    | succ k ih =>
      intro b hb rb e
      by_cases z : b = fr
      · rw [z, pfr]; omega
      · obtain ⟨a, a1, a2, a3, a4, a5⟩ := h7 b hb rb z
        have x := ih a a1 a2 (by omega)
        have pa := PB a a1
        have ra : E 27 a ≠ 9999 := by
          have rl := h9 b hb
          obtain ⟨j, j1, j2⟩ := h3 a a1 a2
          have y := (h2 j j1).2.2.2
          rw [j2, Int.toNat_natCast] at y
          omega
        have wb : w b = 0 := (hS b hb).mp a4
        have y := i6 a b a1 hb (fx a a1 ra) a3 (fun z => by have := z.2; omega)
        omega
  -- what is reached is seen, and as near
  have B : (n ≤ i → ∀ (k b : Nat), b < 100 → E 27 b ≠ 9999 → pr_o E b = (k : Int) → R b ≠ -1 ∧ R b ≤ (k : Int)) ∧ (R to ≠ -1 → ∀ (k b : Nat), (k : Int) < R to → b < 100 → E 27 b ≠ 9999 → pr_o E b = (k : Int) → R b ≠ -1 ∧ R b ≤ (k : Int)) := by
    have st : ∀ (k b : Nat), b < 100 → E 27 b ≠ 9999 → pr_o E b = (k : Int) → b ≠ fr → ∃ a : Nat, a < 100 ∧ E 27 a ≠ 9999 ∧ nb_o a b = true ∧ S b ∧ pr_o E b = pr_o E a + 1 := by
      intro k b hb rb e z
      obtain ⟨a, a1, a2, a3, a4, a5⟩ := i7 b hb rb z
      have wb := hw b hb
      have wb0 : w b = 0 := by
        apply Decidable.byContradiction
        intro y
        exact a4 ⟨by decide, by omega⟩
      exact ⟨a, a1, i4 a a1 a2, a3, (hS b hb).mpr wb0, by omega⟩
    have base : ∀ (k b : Nat), b < 100 → b = fr → R b ≠ -1 ∧ R b ≤ (k : Int) := by
      intro k b hb e
      rw [e, h8]
      omega
    refine ⟨fun ni k => ?_, fun tr k => ?_⟩
    · induction k with
      | zero =>
        intro b hb rb e
        by_cases z : b = fr
        · exact base 0 b hb z
        · obtain ⟨a, a1, a2, a3, a4, a5⟩ := st 0 b hb rb e z
          have pa := PB a a1
          omega
      | succ k ih =>
        intro b hb rb e
        by_cases z : b = fr
        · exact base (k + 1) b hb z
        · obtain ⟨a, a1, a2, a3, a4, a5⟩ := st (k + 1) b hb rb e z
          have x := ih a a1 a2 (by omega)
          obtain ⟨j, j1, j2⟩ := h3 a a1 x.1
          have y := h6 j (by omega) j1 b hb (by rw [j2, Int.toNat_natCast]; exact a3) a4
          rw [j2, Int.toNat_natCast] at y
          exact ⟨y.1, by omega⟩
    · induction k with
      | zero =>
        intro b hk hb rb e
        by_cases z : b = fr
        · exact base 0 b hb z
        · obtain ⟨a, a1, a2, a3, a4, a5⟩ := st 0 b hb rb e z
          have pa := PB a a1
          omega
      | succ k ih =>
        intro b hk hb rb e
        by_cases z : b = fr
        · exact base (k + 1) b hb z
        · obtain ⟨a, a1, a2, a3, a4, a5⟩ := st (k + 1) b hb rb e z
          have x := ih a (by omega) a1 a2 (by omega)
          obtain ⟨j, j1, j2⟩ := h3 a a1 x.1
          obtain ⟨jt, t1, t2⟩ := h3 to hto tr
          by_cases ji : j < i
          · have y := h6 j ji j1 b hb (by rw [j2, Int.toNat_natCast]; exact a3) a4
            rw [j2, Int.toNat_natCast] at y
            exact ⟨y.1, by omega⟩
          · exfalso
            have y := h5 (by omega) jt t1
            have y2 := h4 i j (by omega) j1
            rw [j2, Int.toNat_natCast] at y2
            rw [t2, Int.toNat_natCast] at y
            omega
  have pt := PB to hto
  by_cases tr : R to = -1
  · rw [if_pos tr]
    have ni : n ≤ i := by
      rcases ends with z | z
      · exact (z tr).elim
      · exact z
    have u : E 27 to = 9999 := by
      apply Decidable.byContradiction
      intro z
      have x := B.1 ni (pr_o E to).toNat to hto z (by omega)
      exact x.1 tr
    rw [if_pos u]
  · rw [if_neg tr]
    have rl := h9 to hto
    have a := A (R to).toNat to hto tr (by omega)
    obtain ⟨jt, t1, t2⟩ := h3 to hto tr
    have y := (h2 jt t1).2.2.2
    rw [t2, Int.toNat_natCast] at y
    have ru : E 27 to ≠ 9999 := by omega
    rw [if_neg ru]
    by_cases lt : pr_o E to < R to
    · have x := B.2 tr (pr_o E to).toNat to (by omega) hto ru (by omega)
      omega
    · omega
