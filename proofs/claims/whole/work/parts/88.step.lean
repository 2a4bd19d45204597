/-- a way's price, as the model holds it -/
def pr_o (E : td_D) (b : Nat) : Int := if E 27 b = 9999 then 1000000000 else 1000 * E 28 b + E 27 b
def ve_o (K : Int) (E : td_D) (b : Nat) : Prop := E 27 b = 9999 ∨ (0 ≤ E 27 b ∧ E 27 b ≤ K ∧ 0 ≤ E 28 b ∧ E 28 b ≤ 6 * (E 27 b + 1))
def rx_o (sf : Int) (w P : Nat → Int) (c b : Nat) : Int := if ¬ sf = 0 ∧ 0 < w b then P b else tv_min (P b) (P c + w b * 1000 + 1)
theorem fm_step {sf K : Int} {c b : Nat} {E : td_D} (hc : c < 100) (hb : b < 100) (cb : c ≠ b) (w1 : 0 ≤ E 26 b) (w2 : E 26 b ≤ 6) (K1 : K ≤ 900) (c1 : 0 ≤ E 27 c) (c2 : E 27 c ≤ K) (c3 : 0 ≤ E 28 c) (c4 : E 28 c ≤ 6 * (E 27 c + 1)) (vb : ve_o K E b) : ∃ E' : td_D, F_X12_stepTo (c : Int) (b : Int) sf E = some (0, E') ∧ (∀ x : Nat, x ≠ 27 → x ≠ 28 → E' x = E x) ∧ (∀ y : Nat, y ≠ b → E' 27 y = E 27 y ∧ E' 28 y = E 28 y) ∧ pr_o E' b = rx_o sf (E 26) (pr_o E) c b ∧ ve_o (K + 1) E' b := by
  have cc : 0 ≤ (c : Int) ∧ (c : Int) < ((100 : Nat) : Int) := by omega
  have bb : 0 ≤ (b : Int) ∧ (b : Int) < ((100 : Nat) : Int) := by omega
  have vb' : ve_o (K + 1) E b := by
    unfold ve_o at *
    omega
  have prc : pr_o E c = 1000 * E 28 c + E 27 c := by
    unfold pr_o
    rw [if_neg (by omega)]
  have stay : ∃ E' : td_D, some ((0 : Int), E) = some (0, E') ∧ (∀ x : Nat, x ≠ 27 → x ≠ 28 → E' x = E x) ∧ (∀ y : Nat, y ≠ b → E' 27 y = E 27 y ∧ E' 28 y = E 28 y) ∧ pr_o E' b = pr_o E b ∧ ve_o (K + 1) E' b := ⟨E, rfl, fun _ _ _ => rfl, fun _ _ => ⟨rfl, rfl⟩, rfl, vb'⟩
  have go : ∃ E' : td_D, F_X12_stepTo_14 (c : Int) (b : Int) E = some (0, E') ∧ (∀ x : Nat, x ≠ 27 → x ≠ 28 → E' x = E x) ∧ (∀ y : Nat, y ≠ b → E' 27 y = E 27 y ∧ E' 28 y = E 28 y) ∧ pr_o E' b = tv_min (pr_o E b) (pr_o E c + E 26 b * 1000 + 1) ∧ ve_o (K + 1) E' b := by
    unfold F_X12_stepTo_14 F_X12_stepTo_85
    simp only [if_pos cc, if_pos bb, Int.toNat_natCast, tb_l]
    rw [tw_s (a := E 28 c + E 26 b) (by omega) (by omega), tw_s (a := E 27 c + 1) (by omega) (by omega)]
    have upd : (pr_o E c + E 26 b * 1000 + 1 < pr_o E b) → ∃ E' : td_D, some ((0 : Int), td_upd (td_upd E 28 b (E 28 c + E 26 b)) 27 b (E 27 c + 1)) = some (0, E') ∧ (∀ x : Nat, x ≠ 27 → x ≠ 28 → E' x = E x) ∧ (∀ y : Nat, y ≠ b → E' 27 y = E 27 y ∧ E' 28 y = E 28 y) ∧ pr_o E' b = tv_min (pr_o E b) (pr_o E c + E 26 b * 1000 + 1) ∧ ve_o (K + 1) E' b := by
      intro lt
      have u27 : td_upd (td_upd E 28 b (E 28 c + E 26 b)) 27 b (E 27 c + 1) 27 b = E 27 c + 1 := by rw [tu_at, tu_same]
      have u28 : td_upd (td_upd E 28 b (E 28 c + E 26 b)) 27 b (E 27 c + 1) 28 b = E 28 c + E 26 b := by rw [tu_row (by decide), tu_at, tu_same]
      refine ⟨_, rfl, fun x x1 x2 => by rw [tu_row x1, tu_row x2], fun y hy => ⟨?_, ?_⟩, ?_, ?_⟩
      · rw [tu_at, tu_ne hy, tu_row (by decide)]
      · rw [tu_row (by decide), tu_at, tu_ne hy]
      · unfold tv_min
        rw [if_pos lt, prc]
        unfold pr_o
        rw [u27, u28, if_neg (by omega)]
        omega
      · unfold ve_o
        rw [u27, u28]
        omega
    have keep : pr_o E b ≤ pr_o E c + E 26 b * 1000 + 1 → ∃ E' : td_D, some ((0 : Int), E) = some (0, E') ∧ (∀ x : Nat, x ≠ 27 → x ≠ 28 → E' x = E x) ∧ (∀ y : Nat, y ≠ b → E' 27 y = E 27 y ∧ E' 28 y = E 28 y) ∧ pr_o E' b = tv_min (pr_o E b) (pr_o E c + E 26 b * 1000 + 1) ∧ ve_o (K + 1) E' b := by
      intro le
      refine ⟨E, rfl, fun _ _ _ => rfl, fun _ _ => ⟨rfl, rfl⟩, ?_, vb'⟩
      unfold tv_min
      rw [if_neg (by omega)]
    rcases vb with vb | ⟨v1, v2, v3, v4⟩
    · have prb : pr_o E b = 1000000000 := if_pos vb
      rw [if_pos (show (9999 : Int) ≤ E 27 b by omega)]
      exact upd (by omega)
    · have prb : pr_o E b = 1000 * E 28 b + E 27 b := by
        unfold pr_o
        rw [if_neg (by omega)]
      rw [if_neg (show ¬ (9999 : Int) ≤ E 27 b by omega)]
      by_cases z : E 28 b < E 28 c + E 26 b
      · rw [if_pos z]
        exact keep (by omega)
      · rw [if_neg z]
        by_cases z2 : E 28 c + E 26 b = E 28 b
        · rw [if_pos z2]
          by_cases z3 : E 27 c + 1 < E 27 b
          · rw [if_pos z3]
            exact upd (by omega)
          · rw [if_neg z3]
            exact keep (by omega)
        · rw [if_neg z2]
          exact upd (by omega)
  unfold F_X12_stepTo rx_o
  by_cases s0 : sf = 0
  · rw [if_pos s0, if_neg (fun z => z.1 s0)]
    exact go
  · rw [if_neg s0, if_pos bb, Int.toNat_natCast]
    by_cases w0 : E 26 b ≤ 0
    · rw [if_pos w0, if_neg (by omega)]
      exact go
    · rw [if_neg w0, if_pos ⟨s0, by omega⟩]
      exact stay
/-- a cell's sides, half gone through by the model -/
def wm_o (sf K : Int) (c : Nat) (E0 E : td_D) (k : Int) : Prop := (∀ x : Nat, x ≠ 27 → x ≠ 28 → E x = E0 x) ∧ (∀ b : Nat, b < 100 → pr_o E b = if nk_o 1 0 3 2 c k b = true then rx_o sf (E0 26) (pr_o E0) c b else pr_o E0 b) ∧ (∀ b : Nat, b < 100 → ve_o (K + 1) E b) ∧ ∀ b : Nat, ¬ nk_o 1 0 3 2 c k b = true → E 27 b = E0 27 b ∧ E 28 b = E0 28 b
theorem wm_0 {sf K : Int} {c : Nat} {E0 : td_D} (h : ∀ b : Nat, b < 100 → ve_o K E0 b) : wm_o sf K c E0 E0 0 := by
  refine ⟨fun _ _ _ => rfl, fun b hb => ?_, fun b hb => ?_, fun _ _ => ⟨rfl, rfl⟩⟩
  · rw [if_neg (fun z => by rw [nk_y] at z; omega)]
  · have v := h b hb
    unfold ve_o at *
    omega
theorem wm_nx {c b : Nat} {k t : Int} (hk : (k = 0 ∧ t = 1) ∨ (k = 1 ∧ t = 0) ∨ (k = 2 ∧ t = 3) ∨ (k = 3 ∧ t = 2)) : nk_o 1 0 3 2 c (k + 1) b = true ↔ (nk_o 1 0 3 2 c k b = true ∨ bs_o c t = (b : Int)) := by
  rw [nk_y, nk_y]
  rcases hk with ⟨rfl, rfl⟩ | ⟨rfl, rfl⟩ | ⟨rfl, rfl⟩ | ⟨rfl, rfl⟩ <;> (constructor <;> intro h <;> omega)
theorem wm_skip {sf K : Int} {c : Nat} {E0 E : td_D} {k t : Int} (hk : (k = 0 ∧ t = 1) ∨ (k = 1 ∧ t = 0) ∨ (k = 2 ∧ t = 3) ∨ (k = 3 ∧ t = 2)) (h : bs_o c t = -1) (hw : wm_o sf K c E0 E k) : wm_o sf K c E0 E (k + 1) := by
  have e : ∀ b : Nat, nk_o 1 0 3 2 c (k + 1) b = true ↔ nk_o 1 0 3 2 c k b = true := by
    intro b
    rw [wm_nx hk]
    constructor
    · rintro (h2 | h2)
      · exact h2
      · omega
    · exact Or.inl
  obtain ⟨h1, h2, h3, h4⟩ := hw
  refine ⟨h1, fun b hb => ?_, h3, fun b hb => h4 b (fun z => hb ((e b).mpr z))⟩
  rw [h2 b hb]
  by_cases z : nk_o 1 0 3 2 c k b = true
  · rw [if_pos z, if_pos ((e b).mpr z)]
  · rw [if_neg z, if_neg (fun y => z ((e b).mp y))]
theorem wm_step {sf K : Int} {c : Nat} {E0 E : td_D} {k t : Int} (hk : (k = 0 ∧ t = 1) ∨ (k = 1 ∧ t = 0) ∨ (k = 2 ∧ t = 3) ∨ (k = 3 ∧ t = 2)) (hc : c < 100) (r1 : bs_o c t ≠ -1) (K1 : K ≤ 900) (hw0 : ∀ b : Nat, b < 100 → 0 ≤ E0 26 b ∧ E0 26 b ≤ 6) (hv0 : ∀ b : Nat, b < 100 → ve_o K E0 b) (rc : E0 27 c ≠ 9999) (hw : wm_o sf K c E0 E k) : ∃ E' : td_D, F_X12_stepTo (c : Int) (bs_o c t) sf E = some (0, E') ∧ wm_o sf K c E0 E' (k + 1) := by
  obtain ⟨h1, h2, h3, h4⟩ := hw
  obtain ⟨g1, g2, g3⟩ := bs_b (c := (c : Int)) (by omega) (by omega) r1
  have t4 : t = 0 ∨ t = 1 ∨ t = 2 ∨ t = 3 := by omega
  have un : ∀ b : Nat, (b : Int) = bs_o c t → ¬ nk_o 1 0 3 2 c k b = true := by
    intro b hb w
    rw [nk_y] at w
    rw [hb] at w
    rcases w with ⟨w1, w2⟩ | ⟨w1, w2⟩ | ⟨w1, w2⟩ | ⟨w1, w2⟩
    · have d := bs_d (c := (c : Int)) (by omega) (by omega) t4 (Or.inr (Or.inl rfl)) r1 w2.symm; omega
    · have d := bs_d (c := (c : Int)) (by omega) (by omega) t4 (Or.inl rfl) r1 w2.symm; omega
    · have d := bs_d (c := (c : Int)) (by omega) (by omega) t4 (Or.inr (Or.inr (Or.inr rfl))) r1 w2.symm; omega
    · have d := bs_d (c := (c : Int)) (by omega) (by omega) t4 (Or.inr (Or.inr (Or.inl rfl))) r1 w2.symm; omega
  have uc : ¬ nk_o 1 0 3 2 c k c = true := by
    intro w
    rw [nk_y] at w
    have kk := fun t h => (bs_b (c := (c : Int)) (s := t) (by omega) (by omega) h).2.2
    rcases w with ⟨w1, w2⟩ | ⟨w1, w2⟩ | ⟨w1, w2⟩ | ⟨w1, w2⟩
    · exact kk 1 (by omega) w2
    · exact kk 0 (by omega) w2
    · exact kk 3 (by omega) w2
    · exact kk 2 (by omega) w2
  obtain ⟨b0, hb0⟩ : ∃ b0 : Nat, (b0 : Int) = bs_o c t := ⟨(bs_o c t).toNat, by omega⟩
  have eb := h4 b0 (un b0 hb0)
  have ec := h4 c uc
  have vb0 : ve_o K E b0 := by
    have v := hv0 b0 (by omega)
    unfold ve_o at *
    rw [eb.1, eb.2]
    exact v
  have vc := hv0 c hc
  unfold ve_o at vc
  have w26 : E 26 = E0 26 := h1 26 (by decide) (by decide)
  have hwb := hw0 b0 (by omega)
  obtain ⟨E', s1, s2, s3, s4, s5⟩ := fm_step (sf := sf) (K := K) (c := c) (b := b0) (E := E) hc (by omega) (by omega) (by rw [w26]; exact hwb.1) (by rw [w26]; exact hwb.2) K1 (by rw [ec.1]; omega) (by rw [ec.1]; omega) (by rw [ec.2]; omega) (by rw [ec.1, ec.2]; omega) vb0
  have pb : pr_o E b0 = pr_o E0 b0 := by unfold pr_o; rw [eb.1, eb.2]
  have pc : pr_o E c = pr_o E0 c := by unfold pr_o; rw [ec.1, ec.2]
  rw [← hb0]
  refine ⟨E', s1, fun x x1 x2 => (s2 x x1 x2).trans (h1 x x1 x2), fun b hb => ?_, fun b hb => ?_, fun b hb => ?_⟩
  · by_cases z : b = b0
    · subst z
      rw [if_pos ((wm_nx hk).mpr (Or.inr hb0.symm)), s4]
      unfold rx_o
      rw [w26, pb, pc]
    · have e : nk_o 1 0 3 2 c (k + 1) b = true ↔ nk_o 1 0 3 2 c k b = true := by
        rw [wm_nx hk]
        constructor
        · rintro (h2 | h2)
          · exact h2
          · omega
        · exact Or.inl
      have pz : pr_o E' b = pr_o E b := by unfold pr_o; rw [(s3 b z).1, (s3 b z).2]
      rw [pz, h2 b hb]
      by_cases y : nk_o 1 0 3 2 c k b = true
      · rw [if_pos y, if_pos (e.mpr y)]
      · rw [if_neg y, if_neg (fun w => y (e.mp w))]
  · by_cases z : b = b0
    · subst z
      exact s5
    · have v := h3 b hb
      unfold ve_o at *
      rw [(s3 b z).1, (s3 b z).2]
      exact v
  · have z : b ≠ b0 := fun z => hb ((wm_nx hk).mpr (Or.inr (by omega)))
    have y : ¬ nk_o 1 0 3 2 c k b = true := fun y => hb ((wm_nx hk).mpr (Or.inl y))
    rw [(s3 b z).1, (s3 b z).2]
    exact h4 b y
theorem fm_body {sf K : Int} {c : Nat} {E0 : td_D} (hc : c < 100) (K1 : K ≤ 900) (hw0 : ∀ b : Nat, b < 100 → 0 ≤ E0 26 b ∧ E0 26 b ≤ 6) (hv0 : ∀ b : Nat, b < 100 → ve_o K E0 b) (rc : E0 27 c ≠ 9999) (m : Nat) : ∃ E' : td_D, F_X12_goWays_72 (m + 1) sf (c : Int) E0 = (td_b (F_X12_nearest E') fun r D2 => F_X12_goWays_72 m sf r D2) ∧ wm_o sf K c (td_upd E0 29 c 1) E' 4 := by
  have cc : 0 ≤ (c : Int) ∧ (c : Int) < ((100 : Nat) : Int) := by omega
  have c10 : 0 ≤ (c : Int) := by omega
  generalize hX : td_upd E0 29 c 1 = X
  have x26 : X 26 = E0 26 := by rw [← hX, tu_row (by decide)]
  have x27 : X 27 = E0 27 := by rw [← hX, tu_row (by decide)]
  have x28 : X 28 = E0 28 := by rw [← hX, tu_row (by decide)]
  have hwX : ∀ b : Nat, b < 100 → 0 ≤ X 26 b ∧ X 26 b ≤ 6 := by rw [x26]; exact hw0
  have hvX : ∀ b : Nat, b < 100 → ve_o K X b := by unfold ve_o; rw [x27, x28]; exact hv0
  have rX : X 27 c ≠ 9999 := by rw [x27]; exact rc
  have b1 : bs_o c 1 = (if (c : Int) % 10 = 0 then -1 else (c : Int) - 1) := rfl
  have b0 : bs_o c 0 = (if (c : Int) % 10 = 9 then -1 else (c : Int) + 1) := rfl
  have b3 : bs_o c 3 = (if (c : Int) < 10 then -1 else (c : Int) - 10) := rfl
  have b2 : bs_o c 2 = (if 90 ≤ (c : Int) then -1 else (c : Int) + 10) := rfl
  have h134 : ∀ E3 : td_D, wm_o sf K c X E3 3 → ∃ E' : td_D, F_X12_goWays_134 (fun v2 v3 D => F_X12_goWays_72 m v2 v3 D) sf (c : Int) E3 = (td_b (F_X12_nearest E') fun r D2 => F_X12_goWays_72 m sf r D2) ∧ wm_o sf K c X E' 4 := by
    intro E3 w3
    unfold F_X12_goWays_134
    rw [tv_dv c10 (by omega) (by omega)]
    by_cases z : (9 : Int) ≤ (c : Int) / 10
    · rw [if_pos z]
      exact ⟨E3, rfl, wm_skip (k := 3) (t := 2) (by omega) (by rw [b2, if_pos (by omega)]) w3⟩
    · obtain ⟨E', e1, e2⟩ := wm_step (k := 3) (t := 2) (by omega) hc (by rw [b2, if_neg (by omega)]; omega) K1 hwX hvX rX w3
      rw [b2, if_neg (by omega)] at e1
      rw [if_neg z, tw_s (a := (c : Int) + 10) (by omega) (by omega), e1, td_bs]
      exact ⟨E', rfl, e2⟩
  have h99 : ∀ E1 : td_D, wm_o sf K c X E1 1 → ∃ E' : td_D, F_X12_goWays_99 (fun v2 v3 D => F_X12_goWays_72 m v2 v3 D) sf (c : Int) E1 = (td_b (F_X12_nearest E') fun r D2 => F_X12_goWays_72 m sf r D2) ∧ wm_o sf K c X E' 4 := by
    intro E1 w1
    unfold F_X12_goWays_99
    rw [tv_dv c10 (by omega) (by omega), tv_rme c10]
    have up : ∀ E2 : td_D, wm_o sf K c X E2 2 → ∃ E' : td_D, (if (c : Int) / 10 ≤ 0 then F_X12_goWays_134 (fun v2 v3 D => F_X12_goWays_72 m v2 v3 D) sf (c : Int) E2 else td_b (F_X12_stepTo (c : Int) (tv_w ((c : Int) - 10)) sf E2) fun _ D12 => F_X12_goWays_134 (fun v2 v3 D => F_X12_goWays_72 m v2 v3 D) sf (c : Int) D12) = (td_b (F_X12_nearest E') fun r D2 => F_X12_goWays_72 m sf r D2) ∧ wm_o sf K c X E' 4 := by
      intro E2 w2
      by_cases z : (c : Int) / 10 ≤ 0
      · rw [if_pos z]
        exact h134 E2 (wm_skip (k := 2) (t := 3) (by omega) (by rw [b3, if_pos (by omega)]) w2)
      · obtain ⟨E', e1, e2⟩ := wm_step (k := 2) (t := 3) (by omega) hc (by rw [b3, if_neg (by omega)]; omega) K1 hwX hvX rX w2
        rw [b3, if_neg (by omega)] at e1
        rw [if_neg z, tw_s (a := (c : Int) - 10) (by omega) (by omega), e1, td_bs]
        exact h134 E' e2
    by_cases z : (9 : Int) ≤ (c : Int) % 10
    · rw [if_pos z]
      exact up E1 (wm_skip (k := 1) (t := 0) (by omega) (by rw [b0, if_pos (by omega)]) w1)
    · obtain ⟨E', e1, e2⟩ := wm_step (k := 1) (t := 0) (by omega) hc (by rw [b0, if_neg (by omega)]; omega) K1 hwX hvX rX w1
      rw [b0, if_neg (by omega)] at e1
      rw [if_neg z, tw_s (a := (c : Int) + 1) (by omega) (by omega), e1, td_bs]
      exact up E' e2
  have w0 := wm_0 (sf := sf) (c := c) hvX
  conv =>
    enter [1, E', 1, 1]
    unfold F_X12_goWays_72
  rw [if_neg (show ¬ (c : Int) < 0 by omega), if_pos cc, Int.toNat_natCast, td_ls, hX, tv_rme c10]
  by_cases z : (c : Int) % 10 ≤ 0
  · rw [if_pos z]
    exact h99 X (wm_skip (k := 0) (t := 1) (by omega) (by rw [b1, if_pos (by omega)]) w0)
  · obtain ⟨E', e1, e2⟩ := wm_step (k := 0) (t := 1) (by omega) hc (by rw [b1, if_neg (by omega)]; omega) K1 hwX hvX rX w0
    rw [b1, if_neg (by omega)] at e1
    rw [if_neg z, tw_s (a := (c : Int) - 1) (by omega) (by omega), e1, td_bs]
    exact h99 E' e2
/-- the nearest open cell, as the model finds it -/
def ne_o (E : td_D) (q : Int) : Prop := (q = -1 ∧ ∀ b : Nat, b < 100 → E 29 b = 0 → E 27 b = 9999) ∨ (0 ≤ q ∧ q < 100 ∧ E 29 q.toNat = 0 ∧ E 27 q.toNat ≠ 9999 ∧ ∀ b : Nat, b < 100 → E 29 b = 0 → pr_o E q.toNat ≤ pr_o E b ∧ ((b : Int) < q → pr_o E q.toNat < pr_o E b))
theorem fm_near {K : Int} {E : td_D} (K1 : K ≤ 900) (hv : ∀ b : Nat, b < 100 → ve_o K E b) : ∀ (m : Nat) (r v : Int), 0 ≤ v → v ≤ 100 → 100 - v < m → ((r = -1 ∧ ∀ b : Nat, (b : Int) < v → E 29 b = 0 → E 27 b = 9999) ∨ (0 ≤ r ∧ r < v ∧ E 29 r.toNat = 0 ∧ E 27 r.toNat ≠ 9999 ∧ ∀ b : Nat, (b : Int) < v → E 29 b = 0 → pr_o E r.toNat ≤ pr_o E b ∧ ((b : Int) < r → pr_o E r.toNat < pr_o E b))) → ∃ q : Int, F_X12_nearest_4 m r v E = some (q, E) ∧ ne_o E q := by
  have P : ∀ b : Nat, b < 100 → (E 27 b = 9999 ∧ pr_o E b = 1000000000) ∨ (E 27 b ≠ 9999 ∧ 0 ≤ E 27 b ∧ E 27 b ≤ 900 ∧ 0 ≤ E 28 b ∧ E 28 b ≤ 5406 ∧ pr_o E b = 1000 * E 28 b + E 27 b) := by
    intro b hb
    have v := hv b hb
    unfold ve_o at v
    rcases v with v | v
    · exact Or.inl ⟨v, if_pos v⟩
    · refine Or.inr ⟨by omega, v.1, by omega, by omega, by omega, ?_⟩
      unfold pr_o
      rw [if_neg (by omega)]
  intro m
  induction m with
  | zero => intro r v q1 q2 q3; omega
  | succ m ih =>
    intro r v q1 q2 q3 h
    unfold F_X12_nearest_4
    by_cases c : 100 ≤ v
    · rw [if_pos c]
      refine ⟨r, rfl, ?_⟩
      rcases h with ⟨a1, a2⟩ | ⟨a1, a2, a3, a4, a5⟩
      · exact Or.inl ⟨a1, fun b hb => a2 b (by omega)⟩
      · exact Or.inr ⟨a1, by omega, a3, a4, fun b hb => a5 b (by omega)⟩
    · have vb : ∀ b : Nat, (b : Int) < v + 1 → (b : Int) < v ∨ b = v.toNat := fun b hb => by omega
      have Pv := P v.toNat (by omega)
      rw [if_neg c, if_pos (by omega), tw_s (a := v + 1) (by omega) (by omega)]
      by_cases o : E 29 v.toNat = 0
      · rw [if_pos o]
        by_cases u : 9999 ≤ E 27 v.toNat
        · rw [if_pos u]
          refine ih r (v + 1) (by omega) (by omega) (by omega) ?_
          rcases h with ⟨a1, a2⟩ | ⟨a1, a2, a3, a4, a5⟩
          · refine Or.inl ⟨a1, fun b hb hb2 => ?_⟩
            rcases vb b hb with w | w
            · exact a2 b w hb2
            · rw [w]; omega
          · have Pr := P r.toNat (by omega)
            refine Or.inr ⟨a1, by omega, a3, a4, fun b hb hb2 => ?_⟩
            rcases vb b hb with w | w
            · exact a5 b w hb2
            · rw [w]; omega
        · rw [if_neg u]
          rcases h with ⟨a1, a2⟩ | ⟨a1, a2, a3, a4, a5⟩
          · rw [if_pos (show r < 0 by omega)]
            refine ih v (v + 1) (by omega) (by omega) (by omega) (Or.inr ⟨q1, by omega, o, by omega, fun b hb hb2 => ?_⟩)
            rcases vb b hb with w | w
            · have x := a2 b w hb2
              have Pb := P b (by omega)
              omega
            · rw [w]
              exact ⟨Int.le_refl _, fun z => by omega⟩
          · have Pr := P r.toNat (by omega)
            rw [if_neg (show ¬ r < 0 by omega)]
            have N : F_X12_isNearer v r E = some (tv_tf (pr_o E v.toNat < pr_o E r.toNat), E) := by
              unfold F_X12_isNearer
              rw [if_pos (by omega), if_pos (by omega)]
              unfold tv_tf
              (repeat' split) <;> first | rfl | omega
            rw [N, td_bs]
            by_cases l : pr_o E v.toNat < pr_o E r.toNat
            · rw [tf_t l, if_neg (by decide)]
              refine ih v (v + 1) (by omega) (by omega) (by omega) (Or.inr ⟨q1, by omega, o, by omega, fun b hb hb2 => ?_⟩)
              rcases vb b hb with w | w
              · have x := a5 b w hb2
                exact ⟨by omega, fun z => by omega⟩
              · rw [w]
                exact ⟨Int.le_refl _, fun z => by omega⟩
            · rw [tf_f l, if_pos rfl]
              refine ih r (v + 1) (by omega) (by omega) (by omega) (Or.inr ⟨a1, by omega, a3, a4, fun b hb hb2 => ?_⟩)
              rcases vb b hb with w | w
              · exact a5 b w hb2
              · rw [w]
                exact ⟨by omega, fun z => by omega⟩
      · rw [if_neg o]
        refine ih r (v + 1) (by omega) (by omega) (by omega) ?_
        rcases h with ⟨a1, a2⟩ | ⟨a1, a2, a3, a4, a5⟩
        · refine Or.inl ⟨a1, fun b hb hb2 => ?_⟩
          rcases vb b hb with w | w
          · exact a2 b w hb2
          · rw [w] at hb2; exact (o hb2).elim
        · refine Or.inr ⟨a1, by omega, a3, a4, fun b hb hb2 => ?_⟩
          rcases vb b hb with w | w
          · exact a5 b w hb2
          · rw [w] at hb2; exact (o hb2).elim
