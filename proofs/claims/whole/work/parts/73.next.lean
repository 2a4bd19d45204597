/-- how many of the first n -/
def cn_o (P : Nat → Bool) : Nat → Int
  | 0 => 0
  | n + 1 => cn_o P n + if P n then 1 else 0
theorem cn_b {P : Nat → Bool} : ∀ n : Nat, 0 ≤ cn_o P n ∧ cn_o P n ≤ (n : Int) := by
  intro n
  induction n with
  | zero => exact ⟨Int.le_refl _, Int.le_refl _⟩
  | succ n ih =>
    show 0 ≤ cn_o P n + (if P n then 1 else 0) ∧ cn_o P n + (if P n then 1 else 0) ≤ ((n + 1 : Nat) : Int)
    split <;> omega
theorem cn_c {P Q : Nat → Bool} (h : ∀ n : Nat, P n = Q n) (n : Nat) : cn_o P n = cn_o Q n := by
  rw [show P = Q from funext h]
theorem cn_m {P Q : Nat → Bool} (h : ∀ n : Nat, P n = true → Q n = true) : ∀ n : Nat, cn_o P n ≤ cn_o Q n := by
  intro n
  induction n with
  | zero => exact Int.le_refl _
  | succ n ih =>
    show cn_o P n + (if P n then 1 else 0) ≤ cn_o Q n + (if Q n then 1 else 0)
    by_cases z : P n = true
    · rw [if_pos z, if_pos (h n z)]
      omega
    · rw [if_neg z]
      split <;> omega
theorem cn_t {P : Nat → Bool} {n : Nat} (h : P n = true) : cn_o P (n + 1) = cn_o P n + 1 := by
  show cn_o P n + (if P n then 1 else 0) = _
  rw [if_pos h]
theorem cn_f {P : Nat → Bool} {n : Nat} (h : ¬ P n = true) : cn_o P (n + 1) = cn_o P n := by
  show cn_o P n + (if P n then 1 else 0) = _
  rw [if_neg h, Int.add_zero]
/-- which amounts make all so, and sting as far as d -/
def ps_o (F N re d : Int) (v : Nat) : Bool := decide (F ≤ fo_o (v : Int) re ∧ fo_o (v : Int) re < N ∧ d ≤ fo_o (v : Int) re)
theorem fe_am {d F N : Int} {D : td_D} (r : 1 ≤ D 2 10) : ∀ (m n : Nat), n ≤ 100 → 100 - n < m → F_X11_amountsThatSting_6 m d F N (cn_o (ps_o F N (D 2 10) d) n) (n : Int) D = some (cn_o (ps_o F N (D 2 10) d) 100, D) := by
  intro m
  induction m with
  | zero => intro n q1 q2; omega
  | succ m ih =>
    intro n q1 q2
    unfold F_X11_amountsThatSting_6
    by_cases c : (99 : Int) < (n : Int)
    · rw [if_pos c, show n = 100 by omega]
    · have cb := @cn_b (ps_o F N (D 2 10) d) n
      rw [if_neg c, fe_makes (by omega) (by omega) r, td_bs, fe_farOf (by omega) (by omega) r, td_bs, tw_s (a := (n : Int) + 1) (by omega) (by omega), tw_s (a := cn_o (ps_o F N (D 2 10) d) n + 1) (by omega) (by omega)]
      have i := ih (n + 1) (by omega) (by omega)
      rw [show ((n + 1 : Nat) : Int) = (n : Int) + 1 by omega] at i
      by_cases e : F ≤ fo_o (n : Int) (D 2 10) ∧ fo_o (n : Int) (D 2 10) < N
      · rw [tf_t e, if_neg (show ¬ (1 : Int) = 0 by decide)]
        by_cases g : fo_o (n : Int) (D 2 10) < d
        · rw [if_pos g]
          rw [cn_f (fun z => by have := of_decide_eq_true z; omega)] at i
          exact i
        · rw [if_neg g]
          rw [cn_t (show ps_o F N (D 2 10) d n = true from decide_eq_true ⟨e.1, e.2, by omega⟩)] at i
          exact i
      · rw [tf_f e, if_pos rfl]
        rw [cn_f (fun z => by have := of_decide_eq_true z; omega)] at i
        exact i
theorem fm_36 {a h F N re : Int} {Dm : td_D} (H : ∀ (v : Int) (E : td_D), 0 ≤ v → v ≤ 99 → fr_m Dm E → ∃ b : Int, F_X12_isSo a h v E = some (b, E) ∧ (b = 0 ∨ b = 1) ∧ (b = 1 ↔ (F ≤ fo_o v re ∧ fo_o v re < N))) (hr : ∀ v : Nat, -1 ≤ fo_o (v : Int) re) : ∀ (m n : Nat) (E : td_D), n ≤ 100 → 100 - n < m → fr_m Dm E → (∀ v : Nat, v < n → E 30 v = if ps_o F N re (-1) v then 1 else 0) → ∃ E' : td_D, F_X12_next_36 m a h (cn_o (ps_o F N re (-1)) n) (n : Int) E = F_X12_next_87 tf_N (cn_o (ps_o F N re (-1)) 100) (-2) 0 0 E' ∧ fr_m Dm E' ∧ ∀ v : Nat, v < 100 → E' 30 v = if ps_o F N re (-1) v then 1 else 0 := by
  intro m
  induction m with
  | zero => intro n E q1 q2; omega
  | succ m ih =>
    intro n E q1 q2 fm he
    unfold F_X12_next_36
    by_cases c : (99 : Int) < (n : Int)
    · rw [if_pos c, show n = 100 by omega]
      exact ⟨E, rfl, fm, fun v hv => he v (by omega)⟩
    · have cb := @cn_b (ps_o F N re (-1)) n
      obtain ⟨b, b1, b2, b3⟩ := H (n : Int) E (by omega) (by omega) fm
      have n100 : 0 ≤ (n : Int) ∧ (n : Int) < ((100 : Nat) : Int) := by omega
      rw [if_neg c, b1, td_bs, if_pos ⟨n100, b2⟩, td_ls, if_pos n100, Int.toNat_natCast, tu_at, tu_same, tw_s (a := (n : Int) + 1) (by omega) (by omega), tw_s (a := cn_o (ps_o F N re (-1)) n + 1) (by omega) (by omega)]
      have P : ps_o F N re (-1) n = true ↔ b = 1 := by
        have z := hr n
        constructor
        · intro w
          have w2 := of_decide_eq_true w
          exact b3.mpr ⟨w2.1, w2.2.1⟩
        · intro w
          have w2 := b3.mp w
          exact decide_eq_true ⟨w2.1, w2.2, z⟩
      have fm2 : fr_m Dm (td_upd E 30 n b) := fr_mt fm (fr_mu rfl (fun q => absurd q (by decide)))
      have he2 : ∀ v : Nat, v < n + 1 → td_upd E 30 n b 30 v = if ps_o F N re (-1) v then 1 else 0 := by
        intro v hv
        rw [tu_at]
        unfold tv_up
        by_cases z : v = n
        · rw [if_pos z, z]
          by_cases w : b = 1
          · rw [if_pos (P.mpr w)]; exact w
          · rw [if_neg (fun x => w (P.mp x))]; omega
        · rw [if_neg z]
          exact he v (by omega)
      obtain ⟨E', i1, i2, i3⟩ := ih (n + 1) _ (by omega) (by omega) fm2 he2
      rw [show ((n + 1 : Nat) : Int) = (n : Int) + 1 by omega] at i1
      refine ⟨E', ?_, i2, i3⟩
      by_cases w : b = 0
      · rw [if_pos w]
        rw [cn_f (fun x => by have := P.mp x; omega)] at i1
        exact i1
      · rw [if_neg w]
        rw [cn_t (P.mpr (by omega))] at i1
        exact i1
theorem fm_105 {all best le d F N re : Int} {E : td_D} (kk : Int → Int → Int → Int → td_D → Option (Int × td_D)) (hr : 1 ≤ re) (h8 : E 8 1 = re) (he : ∀ v : Nat, v < 100 → E 30 v = if ps_o F N re (-1) v then 1 else 0) (a1 : 0 ≤ all) (a2 : all ≤ 100) : ∀ (m n : Nat), n ≤ 100 → 100 - n < m → F_X12_next_105 kk m all best le d (cn_o (ps_o F N re d) n) (n : Int) E = F_X12_next_162 kk all best le d (if cn_o (ps_o F N re d) 100 ≤ all - cn_o (ps_o F N re d) 100 then all - cn_o (ps_o F N re d) 100 else cn_o (ps_o F N re d) 100) E := by
  intro m
  induction m with
  | zero => intro n q1 q2; omega
  | succ m ih =>
    intro n q1 q2
    have cb := @cn_b (ps_o F N re d) n
    unfold F_X12_next_105
    by_cases c : (99 : Int) < (n : Int)
    · rw [if_pos c, show n = 100 by omega]
      rw [show n = 100 by omega] at cb
      rw [tw_s (by omega) (by omega)]
      split <;> rfl
    · have n100 : 0 ≤ (n : Int) ∧ (n : Int) < ((100 : Nat) : Int) := by omega
      have i := ih (n + 1) (by omega) (by omega)
      rw [show ((n + 1 : Nat) : Int) = (n : Int) + 1 by omega] at i
      rw [if_neg c, if_pos n100, Int.toNat_natCast, he n (by omega), fm_stingsTo (by omega) (by omega) (by omega), td_bs, h8, tw_s (a := (n : Int) + 1) (by omega) (by omega), tw_s (a := cn_o (ps_o F N re d) n + 1) (by omega) (by omega)]
      have fb := fo_b (a := (n : Int)) (by omega) hr
      by_cases w : ps_o F N re (-1) n = true
      · have w2 := of_decide_eq_true w
        rw [if_pos w, if_neg (show ¬ (1 : Int) = 0 by decide)]
        by_cases g : fo_o (n : Int) re < d
        · rw [if_pos g]
          rw [cn_f (fun z => by have := of_decide_eq_true z; omega)] at i
          exact i
        · rw [if_neg g]
          rw [cn_t (show ps_o F N re d n = true from decide_eq_true ⟨w2.1, w2.2.1, by omega⟩)] at i
          exact i
      · rw [if_neg w, if_pos rfl]
        rw [cn_f (fun z => by
          have z2 := of_decide_eq_true z
          exact w (decide_eq_true ⟨z2.1, z2.2.1, fb.1⟩))] at i
        exact i
theorem lk_next {F N all : Int} {Dc E : td_D} (hr : 1 ≤ Dc 2 10) (h8 : E 8 1 = Dc 2 10) (he : ∀ v : Nat, v < 100 → E 30 v = if ps_o F N (Dc 2 10) (-1) v then 1 else 0) (a1 : 0 < all) (a2 : all ≤ 100) (ha : ∀ d : Int, cn_o (ps_o F N (Dc 2 10) d) 100 ≤ all) : ∀ (m : Nat) (bc pc bm lm d : Int), 0 ≤ d → d ≤ 19 → 19 - d < m → ((bm = bc ∧ 0 ≤ bc ∧ lm = pc) ∨ (d = 0 ∧ bm = -2 ∧ bc = 0 ∧ pc = all + 1)) → ∃ r : Int, F_X11_next_103 m F N all bc pc d Dc = some (r, Dc) ∧ F_X12_next_87 m all bm lm d E = some (r, E) := by
  intro m
  induction m with
  | zero => intro bc pc bm lm d q1 q2 q3; omega
  | succ m ih =>
    intro bc pc bm lm d q1 q2 q3 hrel
    unfold F_X11_next_103 F_X12_next_87
    by_cases c : 18 < d
    · rw [if_pos c, if_pos c]
      exact ⟨bc, rfl, by congr 2; omega⟩
    · have am := fe_am (d := d) (F := F) (N := N) hr tf_N 0 (by omega) (by unfold tf_N; omega)
      have mm := fm_105 (best := bm) (le := lm) (d := d) (F := F) (N := N) (E := E) (fun v4 v5 v6 v7 D => F_X12_next_87 m v4 v5 v6 v7 D) hr h8 he (by omega) a2 tf_N 0 (by omega) (by unfold tf_N; omega)
      have cb := @cn_b (ps_o F N (Dc 2 10) d) 100
      have ca := ha d
      have am2 : F_X11_amountsThatSting d F N Dc = some (cn_o (ps_o F N (Dc 2 10) d) 100, Dc) := by
        unfold F_X11_amountsThatSting
        exact am
      have mm2 : F_X12_next_105 (fun v4 v5 v6 v7 D => F_X12_next_87 m v4 v5 v6 v7 D) tf_N all bm lm d 0 0 E = F_X12_next_162 (fun v4 v5 v6 v7 D => F_X12_next_87 m v4 v5 v6 v7 D) all bm lm d (if cn_o (ps_o F N (Dc 2 10) d) 100 ≤ all - cn_o (ps_o F N (Dc 2 10) d) 100 then all - cn_o (ps_o F N (Dc 2 10) d) 100 else cn_o (ps_o F N (Dc 2 10) d) 100) E := mm
      rw [if_neg c, if_neg c, if_neg (show ¬ all ≤ 0 by omega), am2, td_bs, mm2]
      generalize cn_o (ps_o F N (Dc 2 10) d) 100 = k at *
      unfold F_X12_next_162 tv_max
      rw [tw_s (a := d + 1) (by omega) (by omega), tw_s (a := all - k) (by omega) (by omega)]
      have e : (if k < all - k then all - k else k) = (if k ≤ all - k then all - k else k) := by
        (repeat' split) <;> omega
      rw [e]
      have pb : (if k ≤ all - k then all - k else k) ≤ all ∨ all < k := by split <;> omega
      generalize (if k ≤ all - k then all - k else k) = p at *
      rcases hrel with ⟨h1, h2, h3⟩ | ⟨h1, h2, h3, h4⟩
      · rw [if_neg (show ¬ bm < 0 by omega)]
        by_cases g : pc ≤ p
        · rw [if_pos g, if_neg (show ¬ p < lm by omega)]
          exact ih _ _ _ _ _ (by omega) (by omega) (by omega) (Or.inl ⟨h1, h2, h3⟩)
        · rw [if_neg g, if_pos (show p < lm by omega)]
          exact ih _ _ _ _ _ (by omega) (by omega) (by omega) (Or.inl ⟨rfl, q1, rfl⟩)
      · rw [if_pos (show bm < 0 by omega)]
        by_cases g : pc ≤ p
        · exfalso; omega
        · rw [if_neg g]
          exact ih _ _ _ _ _ (by omega) (by omega) (by omega) (Or.inl ⟨rfl, q1, rfl⟩)
theorem st_19 : ls_19 lw_R := by
  intro a1 a2 Dc Dm _ _ _ hR
  obtain ⟨⟨⟨l1, l1a, l1b⟩, ⟨l2, l2a, l2b⟩, -⟩, ⟨-, ⟨s2, s2a, s2b⟩, -⟩, -⟩ := id hR
  refine lk_R ?_ hR
  unfold F_X11_next F_X12_next F_X11_refusal F_X12_rowFault
  simp only [fe_isShelf, fm_isShelf, fe_isHive, fm_isHive _ (show 0 ≤ Dm 1 3 ∧ Dm 1 3 ≤ 5 by omega), tb_s, tf_0, l2]
  by_cases c : 0 ≤ a1 ∧ a1 ≤ 5
  · by_cases d : 0 ≤ a2 ∧ a2 < Dc 2 1
    · simp only [if_neg (show ¬ ¬ (0 ≤ a1 ∧ a1 ≤ 5) from fun q => q c), if_neg (show ¬ ¬ (0 ≤ a2 ∧ a2 < Dc 2 1) from fun q => q d), if_pos (show 0 ≤ a1 ∧ a1 < ((6 : Nat) : Int) by omega), if_pos (show 0 ≤ a2 ∧ a2 < ((5 : Nat) : Int) by omega)]
      rw [tr_46 (k := a1.toNat) (by omega), tw_s (a := -2 - 0) (by omega) (by omega)]
      rcases sh_k (sh_all hR a1.toNat (by omega)) with ⟨k1, k2⟩ | ⟨k1, k2, k3, k4⟩ | ⟨k1, k2, k3, k4, k5, k6, k7⟩
      · simp (disch := omega) only [if_pos, if_neg, tb_s]
        exact lk_0 rfl
      · simp (disch := omega) only [if_pos, if_neg, tb_s]
        exact lk_0 rfl
      · by_cases c1 : Dc (47 + 2 * a1.toNat) 0 = 0
        · obtain ⟨F, N, f1, f2, f3⟩ := lk_so (h := a2) hR c.1 c.2 c1 d.1 (by omega) rfl tf_N 0 (-1) 100 (by omega) (by omega) (by unfold tf_N; omega)
          have hr : ∀ v : Nat, -1 ≤ fo_o (v : Int) (Dc 2 10) := fun v => (fo_b (by omega) s2a).1
          have H : ∀ (v : Int) (E : td_D), 0 ≤ v → v ≤ 99 → fr_m Dm E → ∃ b : Int, F_X12_isSo a1 a2 v E = some (b, E) ∧ (b = 0 ∨ b = 1) ∧ (b = 1 ↔ (F ≤ fo_o v (Dc 2 10) ∧ fo_o v (Dc 2 10) < N)) := by
            intro v E v1 v2 fm
            obtain ⟨b, w1, w2, w3⟩ := f3 v E v1 v2 fm
            have fb := fo_b v1 s2a
            have w4 : F_X12_isSo a1 a2 v E = some (b, E) := by
              unfold F_X12_isSo
              exact w1
            exact ⟨b, w4, w2, by rw [← w3]; omega⟩
          obtain ⟨E', e1, e2, e3⟩ := fm_36 H hr tf_N 0 Dm (by omega) (by unfold tf_N; omega) (fr_m0 _) (fun v hv => by omega)
          have am : F_X11_amountsThatSting (-1) F N Dc = some (cn_o (ps_o F N (Dc 2 10) (-1)) 100, Dc) := by
            unfold F_X11_amountsThatSting
            exact fe_am s2a tf_N 0 (by omega) (by unfold tf_N; omega)
          have e1' : F_X12_next_36 tf_N a1 a2 0 0 Dm = F_X12_next_87 tf_N (cn_o (ps_o F N (Dc 2 10) (-1)) 100) (-2) 0 0 E' := e1
          have cb := @cn_b (ps_o F N (Dc 2 10) (-1)) 100
          have ca : ∀ d : Int, cn_o (ps_o F N (Dc 2 10) d) 100 ≤ cn_o (ps_o F N (Dc 2 10) (-1)) 100 := fun d => cn_m (fun n z => by
            have z2 := of_decide_eq_true z
            exact decide_eq_true ⟨z2.1, z2.2.1, hr n⟩) 100
          have f1' : F_X11_farthestStung (47 + 2 * a1.toNat) (Dc 4 a2.toNat) Dc = some (F, Dc) := by
            unfold F_X11_farthestStung
            exact f1
          have f2' : F_X11_nearestSafe (47 + 2 * a1.toNat) (Dc 4 a2.toNat) Dc = some (N, Dc) := by
            unfold F_X11_nearestSafe
            exact f2
          simp only [if_neg (show ¬ Dc (47 + 2 * a1.toNat) 0 = -1 by omega), if_pos c1, tb_s, if_neg (show ¬ Dm 37 a1.toNat = -1 by omega), if_pos (show Dm 37 a1.toNat = -2 - 0 by omega), if_true, if_pos (show (0 : Int) ≤ 0 by decide), f1', f2', am, e1']
          generalize cn_o (ps_o F N (Dc 2 10) (-1)) 100 = k at *
          by_cases k0 : k = 0
          · rw [if_pos k0, k0]
            show lk_s _ (F_X12_next_87 (4999 + 1) 0 (-2) 0 0 E') _ _
            unfold F_X12_next_87
            rw [if_neg (by decide), if_pos (by decide)]
            exact lk_1 rfl (fr_c0 _) e2
          · rw [if_neg k0, tw_s (a := k + 1) (by omega) (by omega)]
            obtain ⟨r, r1, r2⟩ := lk_next (F := F) (N := N) (all := k) s2a (by rw [e2.1 8 rfl]; exact s2) e3 (by omega) (by omega) ca tf_N 0 (k + 1) (-2) 0 0 (by omega) (by omega) (by unfold tf_N; omega) (Or.inr ⟨rfl, rfl, rfl, rfl⟩)
            rw [r1, r2]
            exact lk_1 rfl (fr_c0 _) e2
        · simp (disch := omega) only [if_pos, if_neg, tb_s]
          exact lk_0 rfl
    · simp only [if_neg (show ¬ ¬ (0 ≤ a1 ∧ a1 ≤ 5) from fun q => q c), if_pos d]
      exact lk_0 rfl
  · simp only [if_pos c]
    exact lk_0 rfl
