/-- bits, and how many -/
def pc_o (v : Nat) : Nat := v % 2 + v / 2 % 2 + v / 4 % 2 + v / 8 % 2 + v / 16 % 2
theorem or_bit : ∀ h : Fin 5, ∀ v : Fin 32, (v : Nat) < 2 ^ (h : Nat) → tv_or ((v : Nat) : Int) (tv_shl 1 ((h : Nat) : Int)) = (((v : Nat) + 2 ^ (h : Nat) : Nat) : Int) ∧ pc_o ((v : Nat) + 2 ^ (h : Nat)) = pc_o (v : Nat) + 1 := by decide +kernel
theorem or_bit2 {h v : Nat} (h1 : h < 5) (hv : v < 2 ^ h) : tv_or (v : Int) (tv_shl 1 (h : Int)) = ((v + 2 ^ h : Nat) : Int) ∧ pc_o (v + 2 ^ h) = pc_o v + 1 := by
  have b : 2 ^ h ≤ 2 ^ 4 := Nat.pow_le_pow_right (by omega) (by omega)
  exact or_bit ⟨h, h1⟩ ⟨v, by omega⟩ hv
/-- the hives that sting in a cell, by what is in them -/
def ds_o (f ce : Nat → Int) (re xy : Int) (h : Nat) : Bool := decide (da_o xy (ce h) ≤ fo_o (al_o f (h : Int)) re)
/-- bits of the first n -/
def bi_o (f ce : Nat → Int) (re xy : Int) : Nat → Nat
  | 0 => 0
  | n + 1 => bi_o f ce re xy n + if ds_o f ce re xy n then 2 ^ n else 0
theorem bi_b {f ce : Nat → Int} {re xy : Int} : ∀ n : Nat, bi_o f ce re xy n < 2 ^ n := by
  intro n
  induction n with
  | zero => exact Nat.one_pos
  | succ n ih =>
    show bi_o f ce re xy n + (if ds_o f ce re xy n then 2 ^ n else 0) < 2 ^ (n + 1)
    rw [Nat.pow_succ]
    split <;> omega
/-- how many of the first n -/
def bn_o (f ce : Nat → Int) (re xy : Int) : Nat → Nat
  | 0 => 0
  | n + 1 => bn_o f ce re xy n + if ds_o f ce re xy n then 1 else 0
theorem bi_pc {f ce : Nat → Int} {re xy : Int} : ∀ n : Nat, n ≤ 5 → pc_o (bi_o f ce re xy n) = bn_o f ce re xy n := by
  intro n
  induction n with
  | zero => intro _; show pc_o 0 = 0; decide
  | succ n ih =>
    intro hn
    show pc_o (bi_o f ce re xy n + (if ds_o f ce re xy n then 2 ^ n else 0)) = bn_o f ce re xy n + (if ds_o f ce re xy n then 1 else 0)
    rw [← ih (by omega)]
    split
    · exact (or_bit2 (by omega) (bi_b n)).2
    · rfl
theorem fe_sting_4 {xy : Int} {D : td_D} (hf : ∀ i : Nat, i < 30 → 0 ≤ D 6 i ∧ D 6 i ≤ 99) (hc : ∀ i : Nat, i < 5 → 0 ≤ D 4 i ∧ D 4 i ≤ 99) (h1 : 0 ≤ D 2 1) (h2 : D 2 1 ≤ 5) (r1 : 1 ≤ D 2 10) (x1 : 0 ≤ xy) (x2 : xy ≤ 99) : ∀ (m n : Nat), (n : Int) ≤ D 2 1 → 5 - n < m → F_X3_stingersAt_4 m xy ((bi_o (D 6) (D 4) (D 2 10) xy n : Nat) : Int) (n : Int) D = some (((bi_o (D 6) (D 4) (D 2 10) xy (D 2 1).toNat : Nat) : Int), D) := by
  have A : ∀ h : Int, 0 ≤ h → h < 5 → F_X7_allIn 5 h D = some (al_o (D 6) h, D) := fun h a b => by
    have z := fe_allIn (q := 5) (D := D) (by rw [tr_5]; exact hf) a b
    rw [tr_5] at z
    exact z
  intro m
  induction m with
  | zero => intro n q1 q2; omega
  | succ m ih =>
    intro n q1 q2
    unfold F_X3_stingersAt_4
    by_cases c : D 2 1 ≤ (n : Int)
    · rw [if_pos c, show (D 2 1).toNat = n by omega]
    · have b := hc n (by omega)
      have b2 := al_b hf (h := (n : Int)) (by omega) (by omega)
      rw [if_neg c, if_pos (show 0 ≤ (n : Int) ∧ (n : Int) < ((5 : Nat) : Int) by omega), Int.toNat_natCast, fe_apart x1 x2 b.1 b.2, td_bs, A _ (by omega) (by omega), td_bs, fe_farOf b2.1 (by omega) r1, td_bs, tw_s (a := (n : Int) + 1) (by omega) (by omega)]
      have i := ih (n + 1) (by omega) (by omega)
      rw [show ((n + 1 : Nat) : Int) = (n : Int) + 1 by omega] at i
      by_cases d : da_o xy (D 4 n) ≤ fo_o (al_o (D 6) (n : Int)) (D 2 10)
      · simp (disch := omega) only [if_neg]
        have e : bi_o (D 6) (D 4) (D 2 10) xy (n + 1) = bi_o (D 6) (D 4) (D 2 10) xy n + 2 ^ n := by
          show _ + (if ds_o _ _ _ _ _ then _ else _) = _
          rw [if_pos (show ds_o (D 6) (D 4) (D 2 10) xy n = true from decide_eq_true d)]
        rw [(or_bit2 (h := n) (by omega) (bi_b n)).1, ← e]
        exact i
      · simp (disch := omega) only [if_pos]
        have e : bi_o (D 6) (D 4) (D 2 10) xy (n + 1) = bi_o (D 6) (D 4) (D 2 10) xy n := by
          show _ + (if ds_o _ _ _ _ _ then _ else _) = _
          rw [if_neg (show ¬ ds_o (D 6) (D 4) (D 2 10) xy n = true from fun z => d (of_decide_eq_true z))]
          rfl
        rw [← e]
        exact i
theorem fe_sting {xy : Int} {D : td_D} (hf : ∀ i : Nat, i < 30 → 0 ≤ D 6 i ∧ D 6 i ≤ 99) (hc : ∀ i : Nat, i < 5 → 0 ≤ D 4 i ∧ D 4 i ≤ 99) (h1 : 0 ≤ D 2 1) (h2 : D 2 1 ≤ 5) (r1 : 1 ≤ D 2 10) (x1 : 0 ≤ xy) (x2 : xy ≤ 99) : F_X3_stingersAt xy D = some (((bi_o (D 6) (D 4) (D 2 10) xy (D 2 1).toNat : Nat) : Int), D) := fe_sting_4 hf hc h1 h2 r1 x1 x2 tf_N 0 (by omega) (by unfold tf_N; omega)
theorem fm_sting_4 {xy pe hi re : Int} {f ce : Nat → Int} {D : td_D} (ht : p_th pe hi f (D 21)) (hp : D 1 1 = pe) (p1 : 0 ≤ pe) (p2 : pe ≤ 6) (hh : D 1 3 = hi) (hc : ∀ i : Nat, i < 5 → D 3 i = ce i ∧ 0 ≤ ce i ∧ ce i ≤ 99) (h1 : 0 ≤ hi) (h2 : hi ≤ 5) (hr : D 8 1 = re) (r1 : 1 ≤ re) (x1 : 0 ≤ xy) (x2 : xy ≤ 99) : ∀ (m n : Nat), (n : Int) ≤ hi → 5 - n < m → F_X12_stungBits_4 m xy ((bi_o f ce re xy n : Nat) : Int) (n : Int) D = some (((bi_o f ce re xy hi.toNat : Nat) : Int), D) := by
  have hf : ∀ i : Nat, i < 30 → 0 ≤ f i ∧ f i ≤ 99 := fun i hi => (ht.1 i hi).2
  intro m
  induction m with
  | zero => intro n q1 q2; omega
  | succ m ih =>
    intro n q1 q2
    unfold F_X12_stungBits_4
    by_cases c : D 1 3 ≤ (n : Int)
    · rw [if_pos c, show hi.toNat = n by omega]
    · have b := hc n (by omega)
      have b2 := al_b hf (h := (n : Int)) (by omega) (by omega)
      simp (disch := omega) only [if_neg c, if_pos, fm_allIn ht hp, fm_stingsTo, fm_stingsIn, td_bs, Int.toNat_natCast, tw_s, b.1, hr]
      have i := ih (n + 1) (by omega) (by omega)
      rw [show ((n + 1 : Nat) : Int) = (n : Int) + 1 by omega] at i
      by_cases d : da_o xy (ce n) ≤ fo_o (al_o f (n : Int)) re
      · simp (disch := omega) only [tf_t, if_neg]
        have e : bi_o f ce re xy (n + 1) = bi_o f ce re xy n + 2 ^ n := by
          show _ + (if ds_o _ _ _ _ _ then _ else _) = _
          rw [if_pos (show ds_o f ce re xy n = true from decide_eq_true d)]
        rw [(or_bit2 (h := n) (by omega) (bi_b n)).1, ← e]
        exact i
      · simp (disch := omega) only [tf_f, if_pos, if_true]
        have e : bi_o f ce re xy (n + 1) = bi_o f ce re xy n := by
          show _ + (if ds_o _ _ _ _ _ then _ else _) = _
          rw [if_neg (show ¬ ds_o f ce re xy n = true from fun z => d (of_decide_eq_true z))]
          rfl
        rw [← e]
        exact i
theorem fm_sting {xy pe hi re : Int} {f ce : Nat → Int} {D : td_D} (ht : p_th pe hi f (D 21)) (hp : D 1 1 = pe) (p1 : 0 ≤ pe) (p2 : pe ≤ 6) (hh : D 1 3 = hi) (hc : ∀ i : Nat, i < 5 → D 3 i = ce i ∧ 0 ≤ ce i ∧ ce i ≤ 99) (h1 : 0 ≤ hi) (h2 : hi ≤ 5) (hr : D 8 1 = re) (r1 : 1 ≤ re) (x1 : 0 ≤ xy) (x2 : xy ≤ 99) : F_X12_stungBits xy D = some (((bi_o f ce re xy hi.toNat : Nat) : Int), D) := fm_sting_4 ht hp p1 p2 hh hc h1 h2 hr r1 x1 x2 tf_N 0 (by omega) (by unfold tf_N; omega)
/-- stung -/
theorem st_14 : ls_14 lw_R := by
  intro a1 Dc Dm _ _ hR
  obtain ⟨⟨⟨l1, l1a, l1b⟩, ⟨l2, l2a, l2b⟩, ⟨l3, l3a, l3b⟩, lon, lce, lsh, lz, -⟩, ⟨-, ⟨s2, s2a, s2b⟩, -⟩, -⟩ := id hR
  refine lk_R ?_ hR
  unfold F_X11_stung F_X12_stung
  simp only [fe_isCell, fm_isCell, td_bs, tf_0, fm_layNow]
  by_cases c : 0 ≤ a1 ∧ a1 ≤ 99
  · simp only [if_neg (show ¬ ¬ (0 ≤ a1 ∧ a1 ≤ 99) from fun q => q c)]
    rw [fe_sting (fun i hi => (lsh i hi).2) (fun i hi => (lce i hi).2) l2a l2b s2a c.1 c.2, td_bs, fm_sting (th_now hR) (by rw [cp_row (by decide)]; exact l1) l1a l1b (by rw [cp_row (by decide)]; exact l2) (by rw [cp_row (by decide)]; exact lce) l2a l2b (by rw [cp_row (by decide)]; exact s2) s2a c.1 c.2, td_bs]
    exact lk_1 rfl (fr_c0 _) fr_now
  · simp only [if_pos c]
    exact lk_0 rfl
/-- can -/
theorem lk_can {x y : Int} {Dc Dm : td_D} (h1 : Dm 1 6 = Dc 2 2) (h2 : Dc 2 2 ≤ 10) (hnd : ∀ i : Nat, i < 10 → Dm 5 i = Dc 7 i) (hmo : ∀ i : Nat, i < 10 → Dm 6 i = Dc 8 i) : ∀ (m : Nat) (b v : Int), 0 ≤ v → v ≤ 10 → 10 - v < m → lk_s (F_X11_can_65 m x y b v Dc) (F_X12_can_64 m x y b v Dm) Dc Dm := by
  intro m
  induction m with
  | zero => intro b v q1 q2 q3; omega
  | succ m ih =>
    intro b v q1 q2 q3
    unfold F_X11_can_65 F_X12_can_64
    rw [h1]
    by_cases c : Dc 2 2 ≤ v
    · simp only [if_pos c]
      exact lk_0 rfl
    · simp (disch := omega) only [if_neg c, if_pos, tw_s, hnd, hmo]
      by_cases d : y < Dc 7 v.toNat
      · simp only [if_pos d]
        exact ih _ _ (by omega) (by omega) (by omega)
      · by_cases d2 : Dc 8 v.toNat < x
        · simp only [if_neg d, if_pos d2]
          exact ih _ _ (by omega) (by omega) (by omega)
        · simp only [if_neg d, if_neg d2]
          exact ih _ _ (by omega) (by omega) (by omega)
theorem lk_low {p : Int} {Dc Dm : td_D} (h1 : Dm 1 3 = Dc 2 1) (h2 : Dc 2 1 ≤ 5) (p1 : 0 ≤ p) (p2 : p < 6) (hon : Dm 2 p.toNat = Dc 3 p.toNat) (on1 : 0 ≤ Dc 3 p.toNat) (on2 : Dc 3 p.toNat ≤ 99) (hsh : ∀ i : Nat, i < 30 → Dm 4 i = Dc 6 i ∧ 0 ≤ Dc 6 i ∧ Dc 6 i ≤ 99) : ∀ (m : Nat) (a v : Int), 0 ≤ a → a ≤ 99 → 0 ≤ v → v ≤ 5 → 5 - v < m → ∃ r : Int, F_X3_leastOn_9 m p a v Dc = some (r, Dc) ∧ F_X12_lowestOn_9 m p a v Dm = some (r, Dm) := by
  intro m
  induction m with
  | zero => intro a v q1 q2 q3; omega
  | succ m ih =>
    intro a v a1 a2 q1 q2 q3
    unfold F_X3_leastOn_9 F_X12_lowestOn_9
    rw [h1]
    by_cases c : Dc 2 1 ≤ v
    · simp only [if_pos c]
      exact ⟨_, rfl, rfl⟩
    · have b := hsh (6 * v + p).toNat (by omega)
      simp (disch := omega) only [if_neg c, if_pos, tw_s, fe_share, td_bs, tr_5, b.1, hon]
      unfold tv_min
      generalize Dc 6 (6 * v + p).toNat = s at *
      generalize Dc 3 p.toNat = o at *
      by_cases d : o ≤ 99 - s
      · by_cases e : a ≤ 0
        · simp (disch := omega) only [if_pos, if_neg, tw_s]
          exact ih _ _ a1 a2 (by omega) (by omega) (by omega)
        · by_cases z : 99 - s < o
          · omega
          · simp (disch := omega) only [if_pos, if_neg, tw_s]
            have i := ih 0 (v + 1) (by omega) (by omega) (by omega) (by omega) (by omega)
            rw [show o - o = 0 by omega]
            exact i
      · simp (disch := omega) only [if_neg d, if_pos (show 99 - s < o by omega), tw_s]
        by_cases e : a ≤ o - (99 - s)
        · simp (disch := omega) only [if_pos e, if_neg]
          exact ih _ _ a1 a2 (by omega) (by omega) (by omega)
        · simp (disch := omega) only [if_neg e, if_pos]
          exact ih _ _ (by omega) (by omega) (by omega) (by omega) (by omega)
theorem lk_high {p : Int} {Dc Dm : td_D} (h1 : Dm 1 3 = Dc 2 1) (h2 : Dc 2 1 ≤ 5) (p1 : 0 ≤ p) (p2 : p < 6) (hon : Dm 2 p.toNat = Dc 3 p.toNat) (on1 : 0 ≤ Dc 3 p.toNat) (on2 : Dc 3 p.toNat ≤ 99) (hsh : ∀ i : Nat, i < 30 → Dm 4 i = Dc 6 i ∧ 0 ≤ Dc 6 i ∧ Dc 6 i ≤ 99) : ∀ (m : Nat) (a a' v : Int), (a = if a' ≤ 99 then a' else 99) → 0 ≤ a' → a' ≤ 1000 → 0 ≤ v → v ≤ 5 → 5 - v < m → ∃ r : Int, F_X3_mostOn_9 m p a v Dc = some (r, Dc) ∧ F_X12_highestOn_9 m p a' v Dm = some (r, Dm) := by
  intro m
  induction m with
  | zero => intro a a' v q1 q2 q3; omega
  | succ m ih =>
    intro a a' v ha a1 a2 q1 q2 q3
    unfold F_X3_mostOn_9 F_X12_highestOn_9
    rw [h1]
    by_cases c : Dc 2 1 ≤ v
    · simp only [if_pos c]
      refine ⟨a, rfl, ?_⟩
      rw [ha]
      split <;> rfl
    · have b := hsh (6 * v + p).toNat (by omega)
      simp (disch := omega) only [if_neg c, if_pos, tw_s, fe_share, td_bs, tr_5, b.1, hon]
      unfold tv_min tv_max
      generalize Dc 6 (6 * v + p).toNat = s at *
      generalize Dc 3 p.toNat = o at *
      by_cases d : o + s ≤ a'
      · simp only [if_pos d]
        refine ih _ _ _ ?_ a1 a2 (by omega) (by omega) (by omega)
        rw [ha]
        (repeat' split) <;> omega
      · simp only [if_neg d]
        refine ih _ _ _ ?_ (by omega) (by omega) (by omega) (by omega) (by omega)
        rw [ha]
        (repeat' split) <;> omega
theorem st_10 : ls_10 lw_R := by
  intro a1 a2 Dc Dm _ _ _ hR
  obtain ⟨⟨⟨l1, l1a, l1b⟩, ⟨l2, l2a, l2b⟩, ⟨l3, l3a, l3b⟩, lon, lce, lsh, lz, lnd, lmo, -⟩, -⟩ := id hR
  refine lk_R ?_ hR
  unfold F_X11_can F_X12_can F_X12_can_37
  simp only [fe_isPerson, fm_isPerson _ (show 0 ≤ Dm 1 1 ∧ Dm 1 1 ≤ 6 by omega), fm_in, td_bs, tf_0, l1]
  by_cases c : 0 ≤ a1 ∧ a1 < Dc 2 0
  · by_cases d : 0 ≤ a2 ∧ a2 ≤ 1
    · have bo := lon a1.toNat (by omega)
      have L := fun (x y : Int) => lk_can (x := x) (y := y) l3 l3b (fun i hi => (lnd i hi).1) (fun i hi => (lmo i hi).1) tf_N 0 0 (by omega) (by omega) (by unfold tf_N; omega)
      by_cases e : a2 = 0
      · simp (disch := omega) only [if_pos, if_neg, bo.1]
        exact L _ _
      · obtain ⟨r1, x1, x2⟩ := lk_low l2 l2b c.1 (by omega) bo.1 bo.2.1 bo.2.2 lsh tf_N (Dc 3 a1.toNat) 0 bo.2.1 bo.2.2 (by omega) (by omega) (by unfold tf_N; omega)
        obtain ⟨r2, y1, y2⟩ := lk_high l2 l2b c.1 (by omega) bo.1 bo.2.1 bo.2.2 lsh tf_N (Dc 3 a1.toNat) (Dc 3 a1.toNat) 0 (by rw [if_pos (by omega)]) bo.2.1 (by omega) (by omega) (by omega) (by unfold tf_N; omega)
        unfold F_X3_leastOn F_X3_mostOn F_X12_lowestOn F_X12_highestOn
        simp (disch := omega) only [if_pos, if_neg, bo.1, x1, x2, y1, y2, td_bs]
        exact L _ _
    · by_cases d2 : a2 < 0 <;> simp (disch := omega) only [if_pos, if_neg] <;> exact lk_0 rfl
  · simp only [if_pos c]
    exact lk_0 rfl
