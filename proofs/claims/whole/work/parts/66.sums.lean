/-- sums of a hive's places -/
def sq_o (f : Nat → Int) (b : Nat) : Nat → Int
  | 0 => 0
  | n + 1 => sq_o f b n + f (b + n)
theorem sq_b {f : Nat → Int} {b N : Nat} (h : ∀ i : Nat, i < N → 0 ≤ f i ∧ f i ≤ 99) : ∀ n : Nat, b + n ≤ N → 0 ≤ sq_o f b n ∧ sq_o f b n ≤ 99 * (n : Int) := by
  intro n
  induction n with
  | zero =>
    intro _
    show (0 : Int) ≤ 0 ∧ (0 : Int) ≤ 99 * ((0 : Nat) : Int)
    omega
  | succ n ih =>
    intro hn
    have i := ih (by omega)
    have j := h (b + n) (by omega)
    show 0 ≤ sq_o f b n + f (b + n) ∧ sq_o f b n + f (b + n) ≤ 99 * ((n + 1 : Nat) : Int)
    omega
theorem sq_c {f g : Nat → Int} {b N : Nat} (h : ∀ i : Nat, i < N → g i = f i) : ∀ n : Nat, b + n ≤ N → sq_o g b n = sq_o f b n := by
  intro n
  induction n with
  | zero => intro _; rfl
  | succ n ih =>
    intro hn
    show sq_o g b n + g (b + n) = sq_o f b n + f (b + n)
    rw [ih (by omega), h (b + n) (by omega)]
theorem sq_z {f : Nat → Int} {b m : Nat} : ∀ n : Nat, (∀ k : Nat, m ≤ k → k < n → f (b + k) = 0) → m ≤ n → sq_o f b n = sq_o f b m := by
  intro n
  induction n with
  | zero => intro _ h; rw [show m = 0 by omega]
  | succ n ih =>
    intro hz hm
    by_cases c : m = n + 1
    · rw [c]
    · show sq_o f b n + f (b + n) = sq_o f b m
      rw [ih (fun k h1 h2 => hz k h1 (by omega)) (by omega), hz n (by omega) (by omega)]
      omega
/-- how much is in a hive -/
def al_o (f : Nat → Int) (h : Int) : Int := sq_o f (6 * h).toNat 6
theorem al_b {f : Nat → Int} {h : Int} (hf : ∀ i : Nat, i < 30 → 0 ≤ f i ∧ f i ≤ 99) (h1 : 0 ≤ h) (h2 : h < 5) : 0 ≤ al_o f h ∧ al_o f h ≤ 594 := by
  have b := sq_b hf (b := (6 * h).toNat) 6 (by omega)
  unfold al_o
  omega
theorem fe_allIn_4 {q : Nat} {h : Int} {D : td_D} (hf : ∀ i : Nat, i < 30 → 0 ≤ D (td_r g_c q 0) i ∧ D (td_r g_c q 0) i ≤ 99) (h1 : 0 ≤ h) (h2 : h < 5) : ∀ (m n : Nat), n ≤ 6 → 6 - n < m → F_X7_allIn_4 m q h (sq_o (D (td_r g_c q 0)) (6 * h).toNat n) (n : Int) D = some (al_o (D (td_r g_c q 0)) h, D) := by
  intro m
  induction m with
  | zero => intro n q1 q2; omega
  | succ m ih =>
    intro n q1 q2
    unfold F_X7_allIn_4
    by_cases c : (6 : Int) ≤ (n : Int)
    · rw [if_pos c, show n = 6 by omega]
      rfl
    · have b := sq_b hf (b := (6 * h).toNat) n (by omega)
      have b2 := hf (6 * h + (n : Int)).toNat (by omega)
      simp (disch := omega) only [if_neg c, fe_share, td_bs, tw_s]
      have i := ih (n + 1) (by omega) (by omega)
      rw [show sq_o (D (td_r g_c q 0)) (6 * h).toNat (n + 1) = sq_o (D (td_r g_c q 0)) (6 * h).toNat n + D (td_r g_c q 0) (6 * h + (n : Int)).toNat from (by
        show _ + _ = _
        congr 2
        omega), show ((n + 1 : Nat) : Int) = (n : Int) + 1 by omega] at i
      exact i
theorem fe_allIn {q : Nat} {h : Int} {D : td_D} (hf : ∀ i : Nat, i < 30 → 0 ≤ D (td_r g_c q 0) i ∧ D (td_r g_c q 0) i ≤ 99) (h1 : 0 ≤ h) (h2 : h < 5) : F_X7_allIn q h D = some (al_o (D (td_r g_c q 0)) h, D) := fe_allIn_4 hf h1 h2 tf_N 0 (by omega) (by unfold tf_N; omega)
theorem fm_allIn_4 {h : Int} {D : td_D} (hf : ∀ i : Nat, i < 30 → 0 ≤ D 21 i ∧ D 21 i ≤ 99) (h1 : 0 ≤ h) (h2 : h < 5) (p1 : 0 ≤ D 1 1) (p2 : D 1 1 ≤ 6) (hz : ∀ k : Nat, D 1 1 ≤ (k : Int) → k < 6 → D 21 ((6 * h).toNat + k) = 0) : ∀ (m n : Nat), (n : Int) ≤ D 1 1 → 6 - n < m → F_X12_allIn_4 m h (sq_o (D 21) (6 * h).toNat n) (n : Int) D = some (al_o (D 21) h, D) := by
  intro m
  induction m with
  | zero => intro n q1 q2; omega
  | succ m ih =>
    intro n q1 q2
    unfold F_X12_allIn_4
    by_cases c : D 1 1 ≤ (n : Int)
    · rw [if_pos c]
      unfold al_o
      rw [sq_z (m := n) 6 (fun k k1 k2 => hz k (by omega) k2) (by omega)]
    · have b := sq_b hf (b := (6 * h).toNat) n (by omega)
      have b2 := hf (6 * h + (n : Int)).toNat (by omega)
      simp (disch := omega) only [if_neg c, if_pos, tw_s]
      have i := ih (n + 1) (by omega) (by omega)
      rw [show sq_o (D 21) (6 * h).toNat (n + 1) = sq_o (D 21) (6 * h).toNat n + D 21 (6 * h + (n : Int)).toNat from (by
        show _ + _ = _
        congr 2
        omega), show ((n + 1 : Nat) : Int) = (n : Int) + 1 by omega] at i
      exact i
/-- what is in thought -/
def p_th (pe hi : Int) (f g : Nat → Int) : Prop := (∀ i : Nat, i < 30 → g i = f i ∧ 0 ≤ f i ∧ f i ≤ 99) ∧ ∀ h p : Nat, h < 5 → p < 6 → (hi ≤ (h : Int) ∨ pe ≤ (p : Int)) → f (6 * h + p) = 0
theorem al_c {f g : Nat → Int} {h : Int} (hf : ∀ i : Nat, i < 30 → g i = f i) (h1 : 0 ≤ h) (h2 : h < 5) : al_o g h = al_o f h := sq_c hf 6 (by omega)
theorem fm_allIn {h pe hi : Int} {D : td_D} {f : Nat → Int} (ht : p_th pe hi f (D 21)) (hp : D 1 1 = pe) (h1 : 0 ≤ h) (h2 : h < 5) (p1 : 0 ≤ pe) (p2 : pe ≤ 6) : F_X12_allIn h D = some (al_o f h, D) := by
  rw [← al_c (fun i hi => (ht.1 i hi).1) h1 h2]
  refine fm_allIn_4 (fun i hi => ?_) h1 h2 (by omega) (by omega) (fun k k1 k2 => ?_) tf_N 0 (by omega) (by unfold tf_N; omega)
  · have b := ht.1 i hi
    omega
  · have z := ht.2 h.toNat k (by omega) k2 (Or.inr (by omega))
    rw [(ht.1 _ (by omega)).1, ← z]
    congr 1
    omega
theorem fm_layNow_2 : ∀ (m : Nat) (v : Int) (D : td_D), 0 ≤ v → v ≤ 30 → 30 - v < m → F_X12_layNow_2 m v D = some (0, cp_o D 4 21 v 30) := by
  intro m
  induction m with
  | zero => intro v D h1 h2 h3; omega
  | succ m ih =>
    intro v D h1 h2 h3
    unfold F_X12_layNow_2
    by_cases c : 30 ≤ v
    · rw [if_pos c, cp_end c]
    · simp (disch := omega) only [if_pos, if_neg, td_ls, tw_s]
      rw [ih _ _ (by omega) (by omega) (by omega), cp_step h1 (by omega) (by decide)]
theorem fm_layNow {D : td_D} : F_X12_layNow D = some (0, cp_o D 4 21 0 30) := fm_layNow_2 tf_N 0 D (by omega) (by omega) (by unfold tf_N; omega)
theorem fr_now {D : td_D} : fr_m D (cp_o D 4 21 0 30) := ⟨fun r q => cp_row (fun e => by rw [e] at q; cases q), fun j _ => by rw [cp_row (by decide)]⟩
/-- what is in deed, in thought -/
theorem th_now {Dc Dm : td_D} (hR : lw_R Dc Dm) : p_th (Dc 2 0) (Dc 2 1) (Dc 6) (cp_o Dm 4 21 0 30 21) := by
  obtain ⟨⟨l1, l2, l3, lon, lce, lsh, lz, -⟩, -⟩ := id hR
  refine ⟨fun i hi => ?_, lz⟩
  rw [cp_at, if_pos (by omega)]
  exact lsh i hi
/-- how far two cells are apart -/
def da_o (a b : Int) : Int := (if a % 10 < b % 10 then b % 10 - a % 10 else a % 10 - b % 10) + (if a / 10 < b / 10 then b / 10 - a / 10 else a / 10 - b / 10)
theorem da_y (a b : Int) : da_o a b = da_o b a := by
  unfold da_o
  (repeat' split) <;> omega
theorem da_b {a b : Int} (h1 : 0 ≤ a) (h2 : a ≤ 99) (h3 : 0 ≤ b) (h4 : b ≤ 99) : 0 ≤ da_o a b ∧ da_o a b ≤ 18 := by
  unfold da_o
  (repeat' split) <;> omega
theorem fe_apart {a b : Int} {D : td_D} (h1 : 0 ≤ a) (h2 : a ≤ 99) (h3 : 0 ≤ b) (h4 : b ≤ 99) : F_X11_apart a b D = some (da_o a b, D) := by
  unfold F_X11_apart da_o tv_abs
  simp (disch := omega) only [tv_dv, tv_rme, tw_s]
  congr 2
  (repeat' split) <;> omega
theorem fm_far {a b : Int} {D : td_D} (h1 : 0 ≤ a) (h2 : a ≤ 99) (h3 : 0 ≤ b) (h4 : b ≤ 99) : F_X12_far a b D = some (da_o a b, D) := by
  unfold F_X12_far F_X12_apart da_o
  simp (disch := omega) only [tv_dv, tv_rme, tw_s]
  by_cases c1 : a % 10 < b % 10
  · by_cases c2 : a / 10 < b / 10
    · simp (disch := omega) only [if_pos, if_neg, td_bs, tw_s]
    · simp (disch := omega) only [if_pos, if_neg, td_bs, tw_s]
  · by_cases c2 : a / 10 < b / 10
    · simp (disch := omega) only [if_pos, if_neg, td_bs, tw_s]
    · simp (disch := omega) only [if_pos, if_neg, td_bs, tw_s]
/-- how far so much stings -/
def fo_o (a r : Int) : Int := if a = 0 then -1 else a / r
theorem fo_b {a r : Int} (h1 : 0 ≤ a) (h2 : 1 ≤ r) : -1 ≤ fo_o a r ∧ fo_o a r ≤ a := by
  unfold fo_o
  have h3 : 0 ≤ a / r := Int.ediv_nonneg h1 (by omega)
  have h4 : a / r ≤ a := Int.ediv_le_self r h1
  split <;> omega
theorem fe_farOf {a : Int} {D : td_D} (h1 : 0 ≤ a) (h2 : a ≤ 100000) (h3 : 1 ≤ D 2 10) : F_X3_farOf a D = some (fo_o a (D 2 10), D) := by
  unfold F_X3_farOf fo_o
  by_cases c : a = 0
  · simp (disch := omega) only [if_pos]
  · simp (disch := omega) only [if_pos, if_neg, tv_dv]
theorem fm_stingsTo {a : Int} {D : td_D} (h1 : 0 ≤ a) (h2 : a ≤ 100000) (h3 : 1 ≤ D 8 1) : F_X12_stingsTo a D = some (fo_o a (D 8 1), D) := by
  unfold F_X12_stingsTo fo_o
  show (if a = 0 then some (-1, D) else if D 8 1 = 0 then none else some (tv_div a (D 8 1), D)) = _
  by_cases c : a = 0
  · simp (disch := omega) only [if_pos]
  · simp (disch := omega) only [if_pos, if_neg, tv_dv]
theorem fm_stingsIn {a t c : Int} {D : td_D} (h1 : 0 ≤ a) (h2 : a ≤ 99) (h3 : 0 ≤ c) (h4 : c ≤ 99) : F_X12_stingsIn a t c D = some (tv_tf (da_o c a ≤ t), D) := by
  unfold F_X12_stingsIn
  rw [fm_far h1 h2 h3 h4, td_bs, da_y a c]
  have b := da_b h3 h4 h1 h2
  by_cases q : t < 0
  · simp (disch := omega) only [if_pos, tf_f]
  · by_cases q2 : t < da_o c a
    · simp (disch := omega) only [if_pos, if_neg, tf_f]
    · simp (disch := omega) only [if_pos, if_neg, tf_t]
/-- swarm -/
theorem fe_all_4 {q : Nat} {D : td_D} (hf : ∀ i : Nat, i < 30 → 0 ≤ D (td_r g_c q 0) i ∧ D (td_r g_c q 0) i ≤ 99) : ∀ (m n : Nat), n ≤ 5 → 5 - n < m → F_X7_allInAll_4 m q (sq_o (fun h => al_o (D (td_r g_c q 0)) (h : Int)) 0 n) (n : Int) D = some (sq_o (fun h => al_o (D (td_r g_c q 0)) (h : Int)) 0 5, D) := by
  have bb : ∀ n : Nat, n ≤ 5 → 0 ≤ sq_o (fun h => al_o (D (td_r g_c q 0)) (h : Int)) 0 n ∧ sq_o (fun h => al_o (D (td_r g_c q 0)) (h : Int)) 0 n ≤ 594 * (n : Int) := by
    intro n
    induction n with
    | zero =>
      intro _
      show (0 : Int) ≤ 0 ∧ (0 : Int) ≤ 594 * ((0 : Nat) : Int)
      omega
    | succ n ih =>
      intro hn
      have i := ih (by omega)
      have j := al_b hf (h := ((0 + n : Nat) : Int)) (by omega) (by omega)
      show 0 ≤ sq_o _ 0 n + al_o _ ((0 + n : Nat) : Int) ∧ sq_o _ 0 n + al_o _ ((0 + n : Nat) : Int) ≤ 594 * ((n + 1 : Nat) : Int)
      omega
  intro m
  induction m with
  | zero => intro n q1 q2; omega
  | succ m ih =>
    intro n q1 q2
    unfold F_X7_allInAll_4
    by_cases c : (5 : Int) ≤ (n : Int)
    · rw [if_pos c, show n = 5 by omega]
    · have b := bb n (by omega)
      have b2 := al_b hf (h := (n : Int)) (by omega) (by omega)
      simp (disch := omega) only [if_neg c, fe_allIn hf, td_bs, tw_s]
      have i := ih (n + 1) (by omega) (by omega)
      rw [show sq_o (fun h => al_o (D (td_r g_c q 0)) (h : Int)) 0 (n + 1) = sq_o (fun h => al_o (D (td_r g_c q 0)) (h : Int)) 0 n + al_o (D (td_r g_c q 0)) (n : Int) from (by
        show _ + al_o _ ((0 + n : Nat) : Int) = _
        rw [Nat.zero_add]), show ((n + 1 : Nat) : Int) = (n : Int) + 1 by omega] at i
      exact i
theorem al_z {f g : Nat → Int} {pe hi : Int} (ht : p_th pe hi f g) {h : Nat} (h1 : h < 5) (h2 : hi ≤ (h : Int)) : al_o f (h : Int) = 0 := by
  unfold al_o
  rw [sq_z (m := 0) 6 (fun k _ k2 => by
    have z := ht.2 h k h1 k2 (Or.inl h2)
    rw [← z]
    congr 1 <;> omega) (by omega)]
  rfl
theorem fm_all_4 {pe hi : Int} {D : td_D} {f : Nat → Int} (ht : p_th pe hi f (D 21)) (hp : D 1 1 = pe) (hh : D 1 3 = hi) (p1 : 0 ≤ pe) (p2 : pe ≤ 6) (h1 : 0 ≤ hi) (h2 : hi ≤ 5) : ∀ (m n : Nat), (n : Int) ≤ hi → 5 - n < m → F_X12_allOfAll_4 m (sq_o (fun h => al_o f (h : Int)) 0 n) (n : Int) D = some (sq_o (fun h => al_o f (h : Int)) 0 5, D) := by
  have hf : ∀ i : Nat, i < 30 → 0 ≤ f i ∧ f i ≤ 99 := fun i hi => (ht.1 i hi).2
  have bb : ∀ n : Nat, n ≤ 5 → 0 ≤ sq_o (fun h => al_o f (h : Int)) 0 n ∧ sq_o (fun h => al_o f (h : Int)) 0 n ≤ 594 * (n : Int) := by
    intro n
    induction n with
    | zero =>
      intro _
      show (0 : Int) ≤ 0 ∧ (0 : Int) ≤ 594 * ((0 : Nat) : Int)
      omega
    | succ n ih =>
      intro hn
      have i := ih (by omega)
      have j := al_b hf (h := ((0 + n : Nat) : Int)) (by omega) (by omega)
      show 0 ≤ sq_o _ 0 n + al_o _ ((0 + n : Nat) : Int) ∧ sq_o _ 0 n + al_o _ ((0 + n : Nat) : Int) ≤ 594 * ((n + 1 : Nat) : Int)
      omega
  intro m
  induction m with
  | zero => intro n q1 q2; omega
  | succ m ih =>
    intro n q1 q2
    unfold F_X12_allOfAll_4
    by_cases c : D 1 3 ≤ (n : Int)
    · rw [if_pos c, sq_z (m := n) 5 (fun k k1 k2 => by
        show al_o f ((0 + k : Nat) : Int) = 0
        exact al_z ht (by omega) (by omega)) (by omega)]
    · have b := bb n (by omega)
      have b2 := al_b hf (h := (n : Int)) (by omega) (by omega)
      simp (disch := omega) only [if_neg c, fm_allIn ht hp, td_bs, tw_s]
      have i := ih (n + 1) (by omega) (by omega)
      rw [show sq_o (fun h => al_o f (h : Int)) 0 (n + 1) = sq_o (fun h => al_o f (h : Int)) 0 n + al_o f (n : Int) from (by
        show _ + al_o _ ((0 + n : Nat) : Int) = _
        rw [Nat.zero_add]), show ((n + 1 : Nat) : Int) = (n : Int) + 1 by omega] at i
      exact i
/-- all that is in all hives -/
def aa_o (f : Nat → Int) : Int := sq_o (fun h => al_o f (h : Int)) 0 5
theorem aa_b {f : Nat → Int} (hf : ∀ i : Nat, i < 30 → 0 ≤ f i ∧ f i ≤ 99) : 0 ≤ aa_o f ∧ aa_o f ≤ 2970 := by
  have k0 := al_b hf (h := ((0 : Nat) : Int)) (by omega) (by omega)
  have k1 := al_b hf (h := ((1 : Nat) : Int)) (by omega) (by omega)
  have k2 := al_b hf (h := ((2 : Nat) : Int)) (by omega) (by omega)
  have k3 := al_b hf (h := ((3 : Nat) : Int)) (by omega) (by omega)
  have k4 := al_b hf (h := ((4 : Nat) : Int)) (by omega) (by omega)
  show 0 ≤ 0 + al_o f ((0 + 0 : Nat) : Int) + al_o f ((0 + 1 : Nat) : Int) + al_o f ((0 + 2 : Nat) : Int) + al_o f ((0 + 3 : Nat) : Int) + al_o f ((0 + 4 : Nat) : Int) ∧ 0 + al_o f ((0 + 0 : Nat) : Int) + al_o f ((0 + 1 : Nat) : Int) + al_o f ((0 + 2 : Nat) : Int) + al_o f ((0 + 3 : Nat) : Int) + al_o f ((0 + 4 : Nat) : Int) ≤ 2970
  simp only [Nat.zero_add]
  omega
theorem fe_all {q : Nat} {D : td_D} (hf : ∀ i : Nat, i < 30 → 0 ≤ D (td_r g_c q 0) i ∧ D (td_r g_c q 0) i ≤ 99) : F_X7_allInAll q D = some (aa_o (D (td_r g_c q 0)), D) := fe_all_4 hf tf_N 0 (by omega) (by unfold tf_N; omega)
theorem fm_all {pe hi : Int} {D : td_D} {f : Nat → Int} (ht : p_th pe hi f (D 21)) (hp : D 1 1 = pe) (hh : D 1 3 = hi) (p1 : 0 ≤ pe) (p2 : pe ≤ 6) (h1 : 0 ≤ hi) (h2 : hi ≤ 5) : F_X12_allOfAll D = some (aa_o f, D) := fm_all_4 ht hp hh p1 p2 h1 h2 tf_N 0 (by omega) (by unfold tf_N; omega)
theorem st_23 : ls_23 lw_R := by
  intro a1 Dc Dm _ _ hR
  obtain ⟨⟨⟨l1, l1a, l1b⟩, ⟨l2, l2a, l2b⟩, ⟨l3, l3a, l3b⟩, lon, lce, lsh, lz, -⟩, ⟨-, ⟨s2, s2a, s2b⟩, -⟩, -⟩ := id hR
  refine lk_R ?_ hR
  unfold F_X11_swarm F_X12_swarm F_X11_farOrNot
  simp only [fm_in, td_bs, tf_0]
  have hf : ∀ i : Nat, i < 30 → 0 ≤ Dc 6 i ∧ Dc 6 i ≤ 99 := fun i hi => (lsh i hi).2
  by_cases c : 0 ≤ a1 ∧ a1 ≤ 1
  · have b := aa_b hf
    have e1 : cp_o Dm 4 21 0 30 1 1 = Dc 2 0 := by rw [cp_row (by decide)]; exact l1
    have e3 : cp_o Dm 4 21 0 30 1 3 = Dc 2 1 := by rw [cp_row (by decide)]; exact l2
    have e8 : cp_o Dm 4 21 0 30 8 1 = Dc 2 10 := by rw [cp_row (by decide)]; exact s2
    simp (disch := omega) only [if_pos, if_neg, fm_layNow, td_bs, fm_all (th_now hR) e1 e3]
    rw [fe_all (q := 5) (by rw [tr_5]; exact hf), td_bs, tr_5]
    by_cases c1 : a1 = 0
    · simp only [if_pos c1]
      exact lk_1 rfl (fr_c0 _) fr_now
    · simp only [if_neg c1]
      rw [fe_farOf b.1 (by omega) s2a, fm_stingsTo b.1 (by omega) (by omega), e8, td_bs, td_bs]
      have b2 := fo_b b.1 s2a
      by_cases c2 : aa_o (Dc 6) = 0
      · have b3 : fo_o (aa_o (Dc 6)) (Dc 2 10) = -1 := if_pos c2
        rw [b3]
        simp (disch := omega) only [if_neg, td_bs, if_pos c2]
        exact lk_1 rfl (fr_c0 _) fr_now
      · have b3 : 0 ≤ fo_o (aa_o (Dc 6)) (Dc 2 10) := by
          unfold fo_o
          rw [if_neg c2]
          exact Int.ediv_nonneg b.1 (by omega)
        simp only [if_neg c2, if_pos b3, td_bs]
        exact lk_1 rfl (fr_c0 _) fr_now
  · by_cases c1 : a1 < 0 <;> simp (disch := omega) only [if_pos, if_neg] <;> exact lk_0 rfl
