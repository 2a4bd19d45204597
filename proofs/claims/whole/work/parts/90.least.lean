theorem lk_lrun {w : Nat → Int} {fr to : Nat} (hw : ∀ b : Nat, b < 100 → 0 ≤ w b ∧ w b ≤ 6) (hfr : fr < 100) (hto : to < 100) : ∀ (n m m' : Nat) (r : Int) (D E : td_D), op_o E = (n : Int) → n < m → n < m' → dk_o 0 w fr E → ne_o E r → (∀ b : Nat, b < 100 → D 25 b = pr_o E b ∧ D 26 b = E 29 b ∧ D 24 b = w b) → E 29 to = 0 → ∃ D' E' : td_D, F_X10_leastPrice_47 m (to : Int) (100 - (n : Int)) D = some (pr_o E' to, D') ∧ F_X12_goWays_72 m' 0 r E = some (0, E') ∧ (∀ x : Nat, x ≠ 25 → x ≠ 26 → D' x = D x) ∧ (∀ x : Nat, x ≠ 27 → x ≠ 28 → x ≠ 29 → E' x = E x) ∧ dk_o 0 w fr E' ∧ E' 27 to ≠ 9999 := by
  intro n
  induction n with
  | zero =>
    intro m m' r D E h1 h2 h3 dk ne hD ho
    exfalso
    have z := cn_u (P := fun b => decide (E 29 b = 0)) (Q := fun b => if b = to then false else decide (E 29 b = 0)) (j := to) (decide_eq_true ho) (by simp) (fun i hi => by simp only [if_neg hi]) 100
    have b := @cn_b (fun b => if b = to then false else decide (E 29 b = 0)) 100
    rw [if_pos hto] at z
    have e : op_o E = cn_o (fun b => decide (E 29 b = 0)) 100 := rfl
    omega
  | succ n ih =>
    intro m m' r D E h1 h2 h3 dk ne hD ho
    obtain ⟨k, rfl⟩ : ∃ k : Nat, m = k + 1 := ⟨m - 1, by omega⟩
    obtain ⟨k', rfl⟩ : ∃ k' : Nat, m' = k' + 1 := ⟨m' - 1, by omega⟩
    have opb := @cn_b (fun b => decide (E 29 b = 0)) 100
    have ope : op_o E = cn_o (fun b => decide (E 29 b = 0)) 100 := rfl
    have K9 : 100 - op_o E ≤ 900 := by omega
    rcases ne with ⟨a1, a2⟩ | ⟨a1, a2, a3, a4, a5⟩
    · exact (dk_all hw hfr dk a2 to hto (a2 to hto ho)).elim
    · obtain ⟨q, q1, q2⟩ := fe_cho (D := D) tf_N (-1) 0 (by omega) (by omega) (by unfold tf_N; omega) (Or.inl ⟨rfl, fun b hb => by omega⟩)
      have qr : q = r := by
        refine fo_u q2 (Or.inr ⟨a1, a2, ?_, fun b hb hb2 => ?_⟩)
        · rw [(hD _ (by omega)).2.1]
          exact a3
        · rw [(hD b hb).2.1] at hb2
          rw [(hD b hb).1, (hD r.toNat (by omega)).1]
          exact a5 b hb hb2
      subst qr
      obtain ⟨c, hc⟩ : ∃ c : Nat, (c : Int) = q := ⟨q.toNat, by omega⟩
      have cq : q.toNat = c := by omega
      rw [cq] at a3 a4 a5
      have c100 : c < 100 := by omega
      obtain ⟨E1, b1, b2⟩ := fm_body (sf := 0) (K := 100 - op_o E) (c := c) (E0 := E) c100 K9 (fun b hb => by rw [dk.1 b hb]; exact hw b hb) dk.2.1 a4 k'
      obtain ⟨d1, d2, d3, d4, d5, d6⟩ := dk_it hw hfr dk c100 a3 a4 (fun b hb ho => (a5 b hb ho).1) b2
      obtain ⟨q', n1, n2⟩ := fm_nearest d1
      have CO : F_X10_cheapestOpen D = some (q, D) := by
        unfold F_X10_cheapestOpen
        exact q1
      have t100 : 0 ≤ (to : Int) ∧ (to : Int) < ((100 : Nat) : Int) := by omega
      unfold F_X10_leastPrice_47
      rw [if_neg (show ¬ (100 : Int) ≤ 100 - ((n + 1 : Nat) : Int) by omega), CO, td_bs, if_neg (show ¬ q = -1 by omega), ← hc, b1, n1, td_bs]
      by_cases ct : (c : Int) = (to : Int)
      · have ct2 : c = to := by omega
        rw [if_pos ct, if_pos t100, Int.toNat_natCast, (hD to hto).1]
        obtain ⟨E', e1, e2, e3, e4, e5⟩ := dk_run hw hfr n k' q' E1 (by omega) (by omega) d1 n2
        have y := e4 to hto (by rw [← ct2]; exact d5)
        refine ⟨D, E', ?_, e1, fun _ _ _ => rfl, fun x x1 x2 x3 => (e5 x x1 x2 x3).trans (d4 x x1 x2 x3), e2, e2.2.2.2.1 to hto y.2⟩
        rw [y.1, ← ct2, d6]
      · have p25 : ∀ b : Nat, b < 100 → 0 ≤ D 25 b ∧ D 25 b ≤ 1000000000 := by
          intro b hb
          rw [(hD b hb).1]
          have p := pr_b K9 (dk.2.1 b hb)
          omega
        have pc : D 25 c ≤ 1000000 := by
          rw [(hD c c100).1]
          have p := pr_b K9 (dk.2.1 c c100)
          have v := dk.2.1 c c100
          unfold ve_o at v
          omega
        obtain ⟨D1, g1, g2, g3⟩ := fe_cheap (c := c) (D0 := td_upd D 26 c 1) c100 (by rw [tu_row (by decide)]; exact p25) (fun b hb => by
          rw [tu_row (by decide), (hD b hb).2.2]
          exact hw b hb) (by rw [tu_row (by decide)]; exact pc) tf_N 0 (td_upd D 26 c 1) (by omega) (by omega) (by unfold tf_N; omega) (fun _ _ => rfl) (fun b hb => by
          rw [if_neg (fun z => by rw [nk_y] at z; omega)])
        have CH : F_X10_cheapen (c : Int) (td_upd D 26 c 1) = some (0, D1) := by
          unfold F_X10_cheapen
          exact g1
        rw [if_neg ct, if_pos (by omega), Int.toNat_natCast, td_ls, CH, td_bs, tw_s (by omega) (by omega), show 100 - ((n + 1 : Nat) : Int) + 1 = 100 - (n : Int) by omega]
        obtain ⟨D', E', s1, s2, s3, s4, s5, s6⟩ := ih k k' q' D1 E1 (by omega) (by omega) (by omega) d1 n2 (fun b hb => by
          obtain ⟨m1, m2, m3, m4⟩ := b2
          have x27 : td_upd E 29 c 1 27 = E 27 := tu_row (by decide)
          have x28 : td_upd E 29 c 1 28 = E 28 := tu_row (by decide)
          have x26 : td_upd E 29 c 1 26 = E 26 := tu_row (by decide)
          have xp : ∀ b : Nat, pr_o (td_upd E 29 c 1) b = pr_o E b := fun b => by unfold pr_o; rw [x27, x28]
          refine ⟨?_, ?_, ?_⟩
          · rw [g3 b hb, m2 b hb, xp b, tu_row (by decide), tu_row (by decide), (hD b hb).1, (hD c c100).1, (hD b hb).2.2]
            by_cases z : nb_o c b = true
            · rw [if_pos z, if_pos (nk_nb.mpr z)]
              unfold rx_o
              rw [if_neg (fun y => y.1 rfl), xp b, xp c, x26, dk.1 b hb]
            · rw [if_neg z, if_neg (fun y => z (nk_nb.mp y))]
          · rw [g2 26 (by decide), m1 29 (by decide) (by decide), tu_at, tu_at]
            unfold tv_up
            by_cases z : b = c
            · rw [if_pos z, if_pos z]
            · rw [if_neg z, if_neg z]
              exact (hD b hb).2.1
          · rw [g2 24 (by decide), tu_row (by decide)]
            exact (hD b hb).2.2) (by
          rw [b2.1 29 (by decide) (by decide), tu_at, tu_ne (by omega)]
          exact ho)
        exact ⟨D', E', s1, s2, fun x x1 x2 => (s3 x x1 x2).trans ((g2 x x1).trans (tu_row x2)), fun x x1 x2 x3 => (s4 x x1 x2 x3).trans (d4 x x1 x2 x3), s5, s6⟩
/-- the model's start -/
def gi_o (fr sf : Int) (D : td_D) : Option (Int × td_D) := if sf = 0 then F_X12_goWays_51 fr sf D else if 0 ≤ fr ∧ fr < ((100 : Nat) : Int) then (if D 26 fr.toNat ≤ 0 then F_X12_goWays_51 fr sf D else some (0, D)) else none
theorem fm_ini {fr sf : Int} : ∀ (m : Nat) (v : Int) (E : td_D), 0 ≤ v → v ≤ 100 → 100 - v < m → (∀ b : Nat, (b : Int) < v → E 27 b = 9999 ∧ E 28 b = 0 ∧ E 29 b = 0) → ∃ E' : td_D, F_X12_goWays_2 m fr sf v E = gi_o fr sf E' ∧ (∀ x : Nat, x ≠ 27 → x ≠ 28 → x ≠ 29 → E' x = E x) ∧ ∀ b : Nat, b < 100 → E' 27 b = 9999 ∧ E' 28 b = 0 ∧ E' 29 b = 0 := by
  intro m
  induction m with
  | zero => intro v E q1 q2 q3; omega
  | succ m ih =>
    intro v E q1 q2 q3 h
    unfold F_X12_goWays_2
    by_cases c : 100 ≤ v
    · rw [if_pos c]
      exact ⟨E, rfl, fun _ _ _ _ => rfl, fun b hb => h b (by omega)⟩
    · rw [if_neg c, if_pos (by omega), td_ls, td_ls, td_ls, tw_s (a := v + 1) (by omega) (by omega)]
      obtain ⟨E', e1, e2, e3⟩ := ih (v + 1) (td_upd (td_upd (td_upd E 27 v.toNat 9999) 28 v.toNat 0) 29 v.toNat 0) (by omega) (by omega) (by omega) (fun b hb => by
        simp (disch := decide) only [tu_row, tu_at]
        unfold tv_up
        by_cases z : b = v.toNat
        · simp only [if_pos z]
          exact ⟨trivial, trivial, trivial⟩
        · simp only [if_neg z]
          exact h b (by omega))
      exact ⟨E', e1, fun x x1 x2 x3 => (e2 x x1 x2 x3).trans (by rw [tu_row x3, tu_row x2, tu_row x1]), e3⟩
theorem cn_all {P : Nat → Bool} : ∀ n : Nat, (∀ k : Nat, k < n → P k = true) → cn_o P n = (n : Int) := by
  intro n
  induction n with
  | zero => intro _; rfl
  | succ n ih =>
    intro h
    rw [cn_t (h n (by omega)), ih (fun k hk => h k (by omega))]
    omega
theorem dk_0 {sf : Int} {w : Nat → Int} {fr : Nat} {E0 : td_D} (hw : ∀ b : Nat, b < 100 → 0 ≤ w b ∧ w b ≤ 6) (hfr : fr < 100) (h26 : ∀ b : Nat, b < 100 → E0 26 b = w b) (h : ∀ b : Nat, b < 100 → E0 27 b = 9999 ∧ E0 28 b = 0 ∧ E0 29 b = 0) : dk_o sf w fr (td_upd (td_upd E0 27 fr 0) 28 fr (w fr)) ∧ ne_o (td_upd (td_upd E0 27 fr 0) 28 fr (w fr)) fr ∧ op_o (td_upd (td_upd E0 27 fr 0) 28 fr (w fr)) = 100 ∧ ∀ b : Nat, b < 100 → pr_o (td_upd (td_upd E0 27 fr 0) 28 fr (w fr)) b = if b = fr then w fr * 1000 else 1000000000 := by
  generalize hX : td_upd (td_upd E0 27 fr 0) 28 fr (w fr) = X
  have x27 : ∀ b : Nat, b < 100 → X 27 b = if b = fr then 0 else 9999 := by
    intro b hb
    rw [← hX, tu_row (by decide), tu_at]
    unfold tv_up
    split
    · rfl
    · exact (h b hb).1
  have x28 : ∀ b : Nat, b < 100 → X 28 b = if b = fr then w fr else 0 := by
    intro b hb
    rw [← hX, tu_at, tu_row (by decide)]
    unfold tv_up
    split
    · rfl
    · exact (h b hb).2.1
  have x29 : ∀ b : Nat, b < 100 → X 29 b = 0 := by
    intro b hb
    rw [← hX, tu_row (by decide), tu_row (by decide)]
    exact (h b hb).2.2
  have x26 : X 26 = E0 26 := by rw [← hX, tu_row (by decide), tu_row (by decide)]
  have op : op_o X = 100 := cn_all 100 (fun k hk => decide_eq_true (x29 k hk))
  have P : ∀ b : Nat, b < 100 → pr_o X b = if b = fr then w fr * 1000 else 1000000000 := by
    intro b hb
    unfold pr_o
    rw [x27 b hb, x28 b hb]
    by_cases z : b = fr
    · rw [if_pos z, if_pos z, if_pos z, if_neg (by decide)]
      omega
    · rw [if_neg z, if_neg z, if_neg z, if_pos rfl]
  have wf := hw fr hfr
  refine ⟨⟨fun b hb => by rw [x26]; exact h26 b hb, fun b hb => ?_, fun b hb => Or.inl (x29 b hb), fun b hb h1 => by rw [x29 b hb] at h1; omega, fun a b ha hb h1 => by rw [x29 a ha] at h1; omega, fun a b ha hb h1 => by rw [x29 a ha] at h1; omega, fun b hb h1 h2 => ?_, ?_, Or.inr fun b hb h1 => ?_⟩, Or.inr ⟨by omega, by omega, ?_, ?_, fun b hb _ => ?_⟩, op, P⟩
  · unfold ve_o
    rw [op, x27 b hb, x28 b hb]
    by_cases z : b = fr
    · rw [if_pos z, if_pos z]
      omega
    · rw [if_neg z, if_neg z]
      omega
  · rw [x27 b hb, if_neg h2] at h1
    exact (h1 rfl).elim
  · rw [P fr hfr, if_pos rfl]
    omega
  · rw [x27 b hb, if_neg h1]
  · rw [Int.toNat_natCast]
    exact x29 fr hfr
  · rw [Int.toNat_natCast, x27 fr hfr, if_pos rfl]
    decide
  · rw [Int.toNat_natCast, P fr hfr, P b hb, if_pos rfl]
    by_cases z : b = fr
    · rw [if_pos z]
      omega
    · rw [if_neg z]
      omega
theorem fe_lini {fr to : Int} {D0 : td_D} (f1 : 0 ≤ fr) (f2 : fr < 100) (w1 : 0 ≤ D0 24 fr.toNat) (w2 : D0 24 fr.toNat ≤ 6) : ∀ (m : Nat) (v : Int) (D : td_D), 0 ≤ v → v ≤ 100 → 100 - v < m → (∀ x : Nat, x ≠ 25 → x ≠ 26 → D x = D0 x) → (∀ b : Nat, (b : Int) < v → D 25 b = 1000000000 ∧ D 26 b = 0) → ∃ D' : td_D, F_X10_leastPrice_2 m fr to v D = F_X10_leastPrice_47 tf_N to 0 D' ∧ (∀ x : Nat, x ≠ 25 → x ≠ 26 → D' x = D0 x) ∧ ∀ b : Nat, b < 100 → D' 25 b = (if b = fr.toNat then D0 24 fr.toNat * 1000 else 1000000000) ∧ D' 26 b = 0 := by
  intro m
  induction m with
  | zero => intro v E q1 q2 q3; omega
  | succ m ih =>
    intro v D q1 q2 q3 fD h
    unfold F_X10_leastPrice_2
    by_cases c : 100 ≤ v
    · rw [if_pos c, if_pos (by omega), td_ls, fD 24 (by decide) (by decide), tw_s (a := D0 24 fr.toNat * 1000) (by omega) (by omega)]
      refine ⟨_, rfl, fun x x1 x2 => (tu_row x1).trans (fD x x1 x2), fun b hb => ?_⟩
      rw [tu_at, tu_row (by decide)]
      unfold tv_up
      have hh := h b (by omega)
      by_cases z : b = fr.toNat
      · rw [if_pos z, if_pos z]
        exact ⟨rfl, hh.2⟩
      · rw [if_neg z, if_neg z]
        exact hh
    · rw [if_neg c, if_pos (by omega), td_ls, td_ls, tw_s (a := v + 1) (by omega) (by omega)]
      refine ih (v + 1) _ (by omega) (by omega) (by omega) (fun x x1 x2 => by rw [tu_row x2, tu_row x1]; exact fD x x1 x2) (fun b hb => ?_)
      simp (disch := decide) only [tu_row, tu_at]
      unfold tv_up
      by_cases z : b = v.toNat
      · simp only [if_pos z]
        exact ⟨trivial, trivial⟩
      · simp only [if_neg z]
        exact h b (by omega)
/-- least -/
theorem lk_least {a b : Int} {Dc Dm : td_D} (hR : lw_R Dc Dm) (a1 : 0 ≤ a) (a2 : a ≤ 99) (b1 : 0 ≤ b) (b2 : b ≤ 99) : ∃ (D1 D' E1 E' : td_D) (s n : Int), F_X10_look Dc = some (0, D1) ∧ F_X10_leastPrice a b D1 = some (1000 * s + n, D') ∧ F_X12_findStings (cp_o Dm 4 21 0 30) = some (0, E1) ∧ F_X12_goWays a 0 E1 = some (0, E') ∧ E' 28 b.toNat = s ∧ E' 27 b.toNat = n ∧ 0 ≤ n ∧ n < 1000 ∧ 0 ≤ s ∧ s ≤ 5406 ∧ fr_c Dc D' ∧ fr_m Dm E' := by
  obtain ⟨⟨l1, ⟨l2, l2a, l2b⟩, -⟩, -⟩ := id hR
  obtain ⟨D1, E1, x1, x2, x3, x4, x5, x6⟩ := lk_look hR
  have hw : ∀ c : Nat, c < 100 → 0 ≤ wi_o Dc c ∧ wi_o Dc c ≤ 6 := fun c _ => ⟨(wi_b Dc l2b c).1, by have := (wi_b Dc l2b c).2; omega⟩
  have wa := hw a.toNat (by omega)
  obtain ⟨E2, y1, y2, y3⟩ := fm_ini (fr := a) (sf := 0) tf_N 0 E1 (by omega) (by omega) (by unfold tf_N; omega) (fun b hb => by omega)
  have e26 : ∀ c : Nat, c < 100 → E2 26 c = wi_o Dc c := fun c hc => by
    rw [y2 26 (by decide) (by decide) (by decide)]
    exact x6 c hc
  obtain ⟨k1, k2, k3, k4⟩ := dk_0 (sf := 0) (fr := a.toNat) hw (by omega) e26 y3
  obtain ⟨D2, z1, z2, z3⟩ := fe_lini (fr := a) (to := b) (D0 := D1) a1 (by omega) (by rw [x4 _ (by omega)]; exact wa.1) (by rw [x4 _ (by omega)]; exact wa.2) tf_N 0 D1 (by omega) (by omega) (by unfold tf_N; omega) (fun _ _ _ => rfl) (fun b hb => by omega)
  have hX29 : td_upd (td_upd E2 27 a.toNat 0) 28 a.toNat (wi_o Dc a.toNat) 29 b.toNat = 0 := by
    rw [tu_row (by decide), tu_row (by decide)]
    exact (y3 b.toNat (by omega)).2.2
  obtain ⟨D', E', g1, g2, g3, g4, g5, g6⟩ := lk_lrun (to := b.toNat) hw (show a.toNat < 100 by omega) (by omega) 100 tf_N tf_N (a.toNat : Int) D2 _ k3 (by unfold tf_N; omega) (by unfold tf_N; omega) k1 k2 (fun c hc => by
    refine ⟨?_, ?_, ?_⟩
    · rw [(z3 c hc).1, k4 c hc, x4 _ (by omega)]
    · rw [(z3 c hc).2, tu_row (by decide), tu_row (by decide)]
      exact (y3 c hc).2.2.symm
    · rw [z2 24 (by decide) (by decide)]
      exact x4 c hc) hX29
  have opb := @cn_b (fun c => decide (E' 29 c = 0)) 100
  have ope : op_o E' = cn_o (fun c => decide (E' 29 c = 0)) 100 := rfl
  have pb := pr_b (by omega) (g5.2.1 b.toNat (by omega))
  rw [show (100 : Int) - ((100 : Nat) : Int) = 0 by omega, show ((b.toNat : Nat) : Int) = b by omega] at g1
  rw [show ((a.toNat : Nat) : Int) = a by omega] at g2
  refine ⟨D1, D', E1, E', E' 28 b.toNat, E' 27 b.toNat, x1, ?_, x2, ?_, rfl, rfl, by omega, by omega, by omega, by omega, ?_, ?_⟩
  · unfold F_X10_leastPrice
    have e : pr_o E' b.toNat = 1000 * E' 28 b.toNat + E' 27 b.toNat := by omega
    rw [z1, g1, e]
  · unfold F_X12_goWays
    rw [y1]
    unfold gi_o F_X12_goWays_51
    rw [if_pos rfl, if_pos (by omega), td_ls, td_ls, tu_row (show (26 : Nat) ≠ 27 by decide), e26 _ (by omega)]
    exact g2
  · exact ⟨fun r q => by
      rw [g3 r (fun z => by rw [z] at q; cases q) (fun z => by rw [z] at q; cases q), z2 r (fun z => by rw [z] at q; cases q) (fun z => by rw [z] at q; cases q)]
      exact x3 r (fun z => by rw [z] at q; cases q), by rw [g3 10 (by decide) (by decide), z2 10 (by decide) (by decide), x3 10 (by decide)]⟩
  · have all : ∀ r : Nat, r ≠ 21 → r ≠ 26 → r ≠ 27 → r ≠ 28 → r ≠ 29 → E' r = Dm r := fun r r1 r2 r3 r4 r5 => by
      rw [g4 r r3 r4 r5, tu_row r4, tu_row r3, y2 r r3 r4 r5]
      exact x5 r r2 r1
    exact ⟨fun r q => all r (fun z => by rw [z] at q; cases q) (fun z => by rw [z] at q; cases q) (fun z => by rw [z] at q; cases q) (fun z => by rw [z] at q; cases q) (fun z => by rw [z] at q; cases q), fun j _ => by rw [all 1 (by decide) (by decide) (by decide) (by decide) (by decide)]⟩
theorem st_16 : ls_16 lw_R := by
  intro a1 a2 a3 Dc Dm _ _ _ _ hR
  refine lk_R ?_ hR
  unfold F_X11_least F_X12_least
  simp only [fe_isCell, fm_isCell, fm_in, tb_s, tf_0, fm_layNow]
  by_cases c1 : 0 ≤ a1 ∧ a1 ≤ 99
  · by_cases c2 : 0 ≤ a2 ∧ a2 ≤ 99
    · by_cases c3 : 0 ≤ a3 ∧ a3 ≤ 1
      · obtain ⟨D1, D', E1, E', s, n, x1, x2, x3, x4, x5, x6, x7, x8, x9, x10, x11, x12⟩ := lk_least hR c1.1 c1.2 c2.1 c2.2
        have h100 : 0 ≤ a2 ∧ a2 < ((100 : Nat) : Int) := by omega
        simp only [if_neg (show ¬ ¬ (0 ≤ a1 ∧ a1 ≤ 99) from fun q => q c1), if_neg (show ¬ ¬ (0 ≤ a2 ∧ a2 ≤ 99) from fun q => q c2), if_neg (show ¬ ¬ (0 ≤ a3 ∧ a3 ≤ 1) from fun q => q c3), if_neg (show ¬ a3 < 0 by omega), if_pos c3.2, x1, x2, x3, x4, tb_s, if_pos h100]
        by_cases c0 : a3 = 0
        · rw [if_pos c0, if_pos c0, tv_dv (by omega) (by omega) (by omega), x5]
          exact lk_1 (by omega) x11 x12
        · rw [if_neg c0, if_neg c0, tv_rme (by omega), x6]
          exact lk_1 (by omega) x11 x12
      · simp only [if_neg (show ¬ ¬ (0 ≤ a1 ∧ a1 ≤ 99) from fun q => q c1), if_neg (show ¬ ¬ (0 ≤ a2 ∧ a2 ≤ 99) from fun q => q c2), if_pos c3]
        by_cases c4 : a3 < 0
        · rw [if_pos c4]
          exact lk_0 rfl
        · rw [if_neg c4, if_neg (by omega)]
          exact lk_0 rfl
    · simp only [if_neg (show ¬ ¬ (0 ≤ a1 ∧ a1 ≤ 99) from fun q => q c1), if_pos c2]
      exact lk_0 rfl
  · simp only [if_pos c1]
    exact lk_0 rfl
