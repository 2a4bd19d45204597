theorem bl_32 : ∀ v : Fin 32, (v : Nat) ≠ 0 → ∃ w : Fin 32, tv_and ((v : Nat) : Int) (tv_w (((v : Nat) : Int) - 1)) = ((w : Nat) : Int) ∧ pc_o (w : Nat) + 1 = pc_o (v : Nat) := by decide +kernel
theorem pc_0 : ∀ v : Fin 32, pc_o (v : Nat) = 0 ↔ (v : Nat) = 0 := by decide +kernel
theorem pc_5 : ∀ v : Fin 32, pc_o (v : Nat) ≤ 5 := by decide +kernel
theorem us_b (a : Int) : (0 ≤ tv_ushr a 6 ∧ tv_ushr a 6 ≤ 67108863) ∧ (0 ≤ tv_ushr a 12 ∧ tv_ushr a 12 ≤ 67108863) := by
  have key : ∀ (u : UInt32) (n : UInt32), (n = 6 ∨ n = 12) → 0 ≤ (u >>> n).toInt32.toInt ∧ (u >>> n).toInt32.toInt ≤ 67108863 := by
    intro u n hn
    have h1 : (u >>> n).toNat ≤ 67108863 := by
      rcases hn with rfl | rfl
      · rw [UInt32.toNat_shiftRight]
        have := u.toNat_lt
        rw [show (6 : UInt32).toNat % 32 = 6 from rfl, Nat.shiftRight_eq_div_pow]
        omega
      · rw [UInt32.toNat_shiftRight]
        have := u.toNat_lt
        rw [show (12 : UInt32).toNat % 32 = 12 from rfl, Nat.shiftRight_eq_div_pow]
        omega
    have h2 : (u >>> n).toInt32.toInt = ((u >>> n).toNat : Int) := by
      show ((u >>> n).toBitVec).toInt = _
      rw [BitVec.toInt_eq_toNat_cond]
      have e : (u >>> n).toBitVec.toNat = (u >>> n).toNat := rfl
      rw [e]
      split <;> omega
    rw [h2]
    omega
  exact ⟨key _ _ (Or.inl rfl), key _ _ (Or.inr rfl)⟩
theorem fm_128 (k53 : Int → Int → Int → Int → Int → Int → td_D → Option (Int × td_D)) (k69 : Int → Int → Int → Int → Int → Int → Int → td_D → Option (Int × td_D)) {v2 v3 v4 v6 v7 v8 : Int} {D : td_D} : ∀ (m b : Nat) (s : Int), b < 32 → pc_o b < m → tv_in s → F_X12_drawn_128 k53 k69 m v2 v3 v4 s v6 v7 v8 (b : Int) D = F_X12_drawn_151 k53 k69 tf_N v2 v3 v4 (tv_w (s + ((pc_o b : Nat) : Int))) v6 v7 v8 0 D := by
  intro m
  induction m with
  | zero => intro b s h1 h2; omega
  | succ m ih =>
    intro b s h1 h2 hs
    unfold F_X12_drawn_128
    by_cases c : b = 0
    · subst c
      rw [if_pos (by rfl), show pc_o 0 = 0 from by decide, show s + ((0 : Nat) : Int) = s by omega, tv_w_id hs]
    · obtain ⟨w, w1, w2⟩ := bl_32 ⟨b, h1⟩ c
      have w1' : tv_and (b : Int) (tv_w ((b : Int) - 1)) = ((w : Nat) : Int) := w1
      have w2' : pc_o (w : Nat) + 1 = pc_o b := w2
      rw [if_neg (by omega), w1', ih w (tv_w (s + 1)) w.2 (by omega) (tv_w_in _), ← w2']
      congr 1
      unfold tv_w
      omega
/-- the land, with how far hives sting on a month's days beside it -/
def wf_o (Dc : td_D) (g : Nat → Int) : td_D := fun r => if r = 59 then g else Dc r
theorem wf_ne {Dc : td_D} {g : Nat → Int} {r : Nat} (h : r ≠ 59) : wf_o Dc g r = Dc r := if_neg h
theorem wf_at {Dc : td_D} {g : Nat → Int} : wf_o Dc g 59 = g := if_pos rfl
theorem wf_R {Dc Dm : td_D} {g : Nat → Int} (hR : lw_R Dc Dm) : lw_R (wf_o Dc g) Dm := by
  unfold lw_R
  simp (disch := decide) only [wf_ne]
  exact hR
theorem wf_up {Dc Dm D E : td_D} {g : Nat → Int} {j : Nat} {v : Int} (dy : dy_o (wf_o Dc g) Dm D E) : dy_o (wf_o Dc (tv_up g j v)) Dm (td_upd D 59 j v) E := by
  refine ⟨fun r r1 r2 r3 r4 r5 => ?_, dy.2⟩
  have h := dy.1 r r1 r2 r3 r4 r5
  by_cases z : r = 59
  · subst z
    rw [tu_at, h, wf_at, wf_at]
  · rw [tu_row z, h, wf_ne z, wf_ne z]
/-- what of the model a day leaves -/
def fm_o (Dm E : td_D) : Prop := ∀ r : Nat, r ≠ 19 → r ≠ 20 → r ≠ 21 → r ≠ 22 → E r = Dm r
theorem fm_of {Dm E : td_D} (h : fm_o Dm E) : fr_m Dm E :=
  ⟨fun r q => h r (fun w => by rw [w] at q; cases q) (fun w => by rw [w] at q; cases q) (fun w => by rw [w] at q; cases q) (fun w => by rw [w] at q; cases q), fun j _ => by rw [h 1 (by decide) (by decide) (by decide) (by decide)]⟩
theorem sq_c {f g : Nat → Int} {b : Nat} : ∀ n : Nat, (∀ k : Nat, k < n → f (b + k) = g (b + k)) → sq_o f b n = sq_o g b n := by
  intro n
  induction n with
  | zero => intro _; rfl
  | succ n ih =>
    intro h
    show sq_o f b n + f (b + n) = sq_o g b n + g (b + n)
    rw [ih (fun k hk => h k (by omega)), h n (by omega)]
theorem al_c {f g : Nat → Int} {h : Nat} (hf : ∀ i : Nat, 6 * h ≤ i → i < 6 * h + 6 → f i = g i) : al_o f (h : Int) = al_o g (h : Int) := by
  unfold al_o
  exact sq_c 6 (fun k hk => hf _ (by omega) (by omega))
theorem lk_dayw {Dc Dm D E : td_D} {g : Nat → Int} {h d : Int} (hR : lw_R Dc Dm) (dy : dy_o (wf_o Dc g) Dm D E) (ht : p_th (Dc 2 0) (Dc 2 1) (D 22) (E 21)) (h1 : 0 ≤ h) (h2 : h < Dc 2 1) : ∃ (c : Int) (D' E' : td_D), (∀ i : Nat, i < 30 → ¬ (6 * h ≤ (i : Int) ∧ (i : Int) < 6 * h + 6) → D' 22 i = D 22 i) ∧ F_X11_passDay 21 h d D = some (c, D') ∧ F_X12_goDay h d E = some (c, E') ∧ (c = 0 ∨ c = 1) ∧ dy_o (wf_o Dc g) Dm D' E' ∧ p_th (Dc 2 0) (Dc 2 1) (D' 22) (E' 21) ∧ (∀ x : Nat, x ≠ 22 → x ≠ 15 → x ≠ 19 → x ≠ 20 → D' x = D x) ∧ ∀ x : Nat, x ≠ 19 → x ≠ 20 → x ≠ 21 → x ≠ 22 → E' x = E x := by
  have L := lk_day2 (q := 21) (r := 22) (h := h) (d := d) (Dc := wf_o Dc g) tr_21 (Or.inr rfl) (wf_R hR) dy
  rw [wf_ne (r := 2) (by decide)] at L
  exact L ht h1 h2
/-- what goes on behind a day of every hive, on the model's side -/
def gd_o (m : Nat) (Dm : td_D) (pe hi : Int) (d v : Int) (f f' : Nat → Int) : Prop := ∀ X : td_D, fm_o Dm X → p_th pe hi f (X 21) → ∃ X' : td_D, (∀ (k53 : Int → Int → Int → Int → Int → Int → td_D → Option (Int × td_D)) (k69 : Int → Int → Int → Int → Int → Int → Int → td_D → Option (Int × td_D)) (v2 v3 v4 v5 v6 v7 : Int), F_X12_drawn_151 k53 k69 m v2 v3 v4 v5 v6 v7 d v X = k69 v2 v3 v4 v5 v6 v7 (d + 1) X') ∧ fm_o Dm X' ∧ p_th pe hi f' (X' 21)
/-- one day foreseen -/
theorem lk_fh {da : Int} {Dc Dm : td_D} (hR : lw_R Dc Dm) {f : Nat → Int} {d : Nat} (d30 : d < 30) (kc : Int → Int → td_D → Option (Int × td_D)) : ∀ (m v : Nat) (D E : td_D) (g : Nat → Int), (v : Int) ≤ Dc 2 1 → Dc 2 1 - (v : Int) < (m : Int) → dy_o (wf_o Dc g) Dm D E → p_th (Dc 2 0) (Dc 2 1) (D 22) (E 21) → (∀ i : Nat, 6 * v ≤ i → i < 30 → D 22 i = f i) → D 6 = Dc 6 →
    ∃ (D' E' : td_D) (g' : Nat → Int), F_X11_foreseeMonth_23 kc m da (d : Int) (v : Int) D = kc da ((d : Int) + 1) D' ∧ dy_o (wf_o Dc g') Dm D' E' ∧ p_th (Dc 2 0) (Dc 2 1) (D' 22) (E' 21) ∧ D' 6 = Dc 6 ∧ (∀ j : Nat, j < 5 * d + v ∨ 5 * d + 5 ≤ j → g' j = g j) ∧ (∀ h : Nat, v ≤ h → (h : Int) < Dc 2 1 → g' (5 * d + h) = fo_o (al_o f (h : Int)) (Dc 2 10)) ∧ gd_o m Dm (Dc 2 0) (Dc 2 1) (d : Int) (v : Int) (D 22) (D' 22) := by
  obtain ⟨⟨⟨l1, l1a, l1b⟩, ⟨l2, l2a, l2b⟩, -⟩, ⟨-, ⟨s2, s2a, s2b⟩, -⟩, -⟩ := id hR
  have x13 : ∀ X : td_D, fm_o Dm X → X 1 3 = Dc 2 1 := fun X hX => by
    rw [hX 1 (by decide) (by decide) (by decide) (by decide)]
    exact l2
  intro m
  induction m with
  | zero => intro v D E g q1 q2; omega
  | succ m ih =>
    intro v D E g q1 q2 dy ht hf h6
    have d2 : D 2 = Dc 2 := (dy.1 2 (by decide) (by decide) (by decide) (by decide) (by decide)).trans (wf_ne (by decide))
    by_cases c : Dc 2 1 ≤ (v : Int)
    · refine ⟨D, E, g, ?_, dy, ht, h6, fun _ _ => rfl, fun h y1 y2 => by omega, fun X hX hp => ⟨X, fun k53 k69 v2 v3 v4 v5 v6 v7 => ?_, hX, hp⟩⟩
      · unfold F_X11_foreseeMonth_23
        rw [d2, if_pos c, tw_s (a := (d : Int) + 1) (by omega) (by omega)]
      · unfold F_X12_drawn_151
        rw [x13 X hX, if_pos c, tw_s (a := (d : Int) + 1) (by omega) (by omega)]
    · have hq : ∀ i : Nat, i < 30 → 0 ≤ D 22 i ∧ D 22 i ≤ 99 := fun i hi => (ht.1 i hi).2
      have A := fe_allIn (q := 21) (h := (v : Int)) (D := D) (by rw [tr_21]; exact hq) (by omega) (by omega)
      rw [tr_21] at A
      have ab := al_b hq (h := (v : Int)) (by omega) (by omega)
      have fa := fe_farOf (D := D) ab.1 (by omega) (by rw [d2]; exact s2a)
      rw [d2] at fa
      have ej : tv_w (tv_w ((d : Int) * 5) + (v : Int)) = ((5 * d + v : Nat) : Int) := by
        rw [tw_s (a := (d : Int) * 5) (by omega) (by omega), tw_s (by omega) (by omega)]
        omega
      have dyw := wf_up (j := 5 * d + v) (v := fo_o (al_o (D 22) (v : Int)) (Dc 2 10)) dy
      have w22 : td_upd D 59 (5 * d + v) (fo_o (al_o (D 22) (v : Int)) (Dc 2 10)) 22 = D 22 := tu_row (by decide)
      have w6 : td_upd D 59 (5 * d + v) (fo_o (al_o (D 22) (v : Int)) (Dc 2 10)) 6 = D 6 := tu_row (by decide)
      obtain ⟨c1, D1, E1, a0, a1, a2, a3, a4, a5, a6, a7⟩ := lk_dayw (h := (v : Int)) (d := (d : Int)) hR dyw (by rw [w22]; exact ht) (by omega) (by omega)
      rw [w22] at a0
      obtain ⟨D', E', g', b1, b2, b3, b4, b5, b6, b7⟩ := ih (v + 1) D1 E1 _ (by omega) (by omega) a4 a5 (fun i i1 i2 => by rw [a0 i i2 (by omega)]; exact hf i (by omega) i2) ((a6 6 (by decide) (by decide) (by decide) (by decide)).trans (w6.trans h6))
      have ev : ((v + 1 : Nat) : Int) = (v : Int) + 1 := by omega
      rw [ev] at b1 b7
      refine ⟨D', E', g', ?_, b2, b3, b4, fun j hj => ?_, fun h y1 y2 => ?_, fun X hX hp => ?_⟩
      · unfold F_X11_foreseeMonth_23
        rw [d2, if_neg c, A, td_bs, fa, td_bs, ej, if_pos (by omega), td_ls, Int.toNat_natCast, a1, td_bs, tw_s (a := (v : Int) + 1) (by omega) (by omega)]
        exact b1
      · rw [b5 j (by omega)]
        exact tu_ne (by omega)
      · by_cases z : h = v
        · subst z
          rw [b5 _ (by omega), tu_same, al_c (f := D 22) (g := f) (h := h) (fun i i1 i2 => hf i i1 (by omega))]
        · exact b6 h (by omega) y2
      · obtain ⟨cX, DX, EX, -, e1, e2, -, e4, e5, -, -⟩ := lk_dayw (h := (v : Int)) (d := (d : Int)) (E := X) hR ⟨dyw.1, hX⟩ (by rw [w22]; exact hp) (by omega) (by omega)
        have e9 := a1.symm.trans e1
        have e10 : D1 = DX := congrArg Prod.snd (Option.some.inj e9)
        subst e10
        obtain ⟨X', x1, x2, x3⟩ := b7 EX e4.2 e5
        refine ⟨X', fun k53 k69 v2 v3 v4 v5 v6 v7 => ?_, x2, x3⟩
        unfold F_X12_drawn_151
        rw [x13 X hX, if_neg c, e2, td_bs, tw_s (a := (v : Int) + 1) (by omega) (by omega)]
        exact x1 k53 k69 v2 v3 v4 v5 v6 v7
/-- a month foreseen -/
theorem lk_fd {da : Nat} {Dc Dm : td_D} (hR : lw_R Dc Dm) (d30 : da ≤ 30) : ∀ (m d : Nat) (D E : td_D) (g : Nat → Int), d ≤ da → da - d < m → dy_o (wf_o Dc g) Dm D E → p_th (Dc 2 0) (Dc 2 1) (D 22) (E 21) → D 6 = Dc 6 →
    ∃ (D' E' : td_D) (g' : Nat → Int) (F : Nat → Nat → Int), F_X11_foreseeMonth_16 m (da : Int) (d : Int) D = some (0, D') ∧ dy_o (wf_o Dc g') Dm D' E' ∧ D' 6 = Dc 6 ∧ F d = D 22 ∧ (∀ j : Nat, j < 5 * d → g' j = g j) ∧ (∀ e h : Nat, d ≤ e → e < da → (h : Int) < Dc 2 1 → g' (5 * e + h) = fo_o (al_o (F e) (h : Int)) (Dc 2 10)) ∧ ∀ e : Nat, d ≤ e → e < da → gd_o tf_N Dm (Dc 2 0) (Dc 2 1) (e : Int) 0 (F e) (F (e + 1)) := by
  obtain ⟨⟨-, ⟨l2, l2a, l2b⟩, -⟩, -⟩ := id hR
  intro m
  induction m with
  | zero => intro d D E g q1 q2; omega
  | succ m ih =>
    intro d D E g q1 q2 dy ht h6
    by_cases c : (da : Int) ≤ (d : Int)
    · refine ⟨D, E, g, fun _ => D 22, ?_, dy, h6, rfl, fun _ _ => rfl, fun e h y1 y2 => by omega, fun e y1 y2 => by omega⟩
      unfold F_X11_foreseeMonth_16
      rw [if_pos c]
    · obtain ⟨D1, E1, g1, a1, a2, a3, a4, a5, a6, a7⟩ := lk_fh (da := (da : Int)) (f := D 22) (d := d) hR (by omega) (fun v1 v2 D => F_X11_foreseeMonth_16 m v1 v2 D) tf_N 0 D E g (by omega) (by unfold tf_N; omega) dy ht (fun _ _ _ => rfl) h6
      obtain ⟨D', E', g', F, b1, b2, b3, b4, b5, b6, b7⟩ := ih (d + 1) D1 E1 g1 (by omega) (by omega) a2 a3 a4
      have ev : ((d + 1 : Nat) : Int) = (d : Int) + 1 := by omega
      rw [ev] at b1
      refine ⟨D', E', g', fun e => if e = d then D 22 else F e, ?_, b2, b3, if_pos rfl, fun j hj => (b5 j (by omega)).trans (a5 j (Or.inl (by omega))), fun e h y1 y2 y3 => ?_, fun e y1 y2 => ?_⟩
      · unfold F_X11_foreseeMonth_16
        rw [if_neg c]
        exact a1.trans b1
      · show _ = fo_o (al_o (if e = d then D 22 else F e) _) _
        by_cases z : e = d
        · rw [if_pos z, z, b5 _ (by omega)]
          exact a6 h (by omega) y3
        · rw [if_neg z]
          exact b6 e h (by omega) y2 y3
      · show gd_o tf_N Dm _ _ _ _ (if e = d then D 22 else F e) (if e + 1 = d then D 22 else F (e + 1))
        rw [if_neg (show ¬ e + 1 = d by omega)]
        by_cases z : e = d
        · rw [if_pos z, z, b4]
          exact a7
        · rw [if_neg z]
          exact b7 e (by omega) y2
/-- how many sting in a cell, out of the month foreseen -/
theorem bn_le {f ce : Nat → Int} {re xy : Int} : ∀ n : Nat, bn_o f ce re xy n ≤ n := by
  intro n
  induction n with
  | zero => exact Nat.le_refl _
  | succ n ih =>
    show bn_o f ce re xy n + (if ds_o f ce re xy n then 1 else 0) ≤ n + 1
    split <;> omega
theorem fe_on {f ce : Nat → Int} {re cl hi : Int} {d : Nat} {D : td_D} (d30 : d < 30) (hh : D 2 1 = hi) (h1 : 0 ≤ hi) (h2 : hi ≤ 5) (hc : ∀ i : Nat, i < 5 → D 4 i = ce i ∧ 0 ≤ ce i ∧ ce i ≤ 99) (hg : ∀ h : Nat, (h : Int) < hi → D 59 (5 * d + h) = fo_o (al_o f (h : Int)) re) (x1 : 0 ≤ cl) (x2 : cl ≤ 99) : ∀ (m n : Nat), (n : Int) ≤ hi → 5 - n < m → F_X11_stingsOn_5 m (d : Int) cl ((bn_o f ce re cl n : Nat) : Int) (n : Int) D = some (((bn_o f ce re cl hi.toNat : Nat) : Int), D) := by
  intro m
  induction m with
  | zero => intro n q1 q2; omega
  | succ m ih =>
    intro n q1 q2
    unfold F_X11_stingsOn_5
    rw [hh]
    by_cases c : hi ≤ (n : Int)
    · rw [if_pos c, show hi.toNat = n by omega]
    · have b := hc n (by omega)
      have bl := @bn_le f ce re cl n
      have ej : tv_w (tv_w ((d : Int) * 5) + (n : Int)) = ((5 * d + n : Nat) : Int) := by
        rw [tw_s (a := (d : Int) * 5) (by omega) (by omega), tw_s (by omega) (by omega)]
        omega
      rw [if_neg c, if_pos (show 0 ≤ (n : Int) ∧ (n : Int) < ((5 : Nat) : Int) by omega), Int.toNat_natCast, b.1, fe_apart x1 x2 b.2.1 b.2.2, td_bs, ej, if_pos (by omega), Int.toNat_natCast, hg n (by omega), tw_s (a := (n : Int) + 1) (by omega) (by omega), tw_s (a := ((bn_o f ce re cl n : Nat) : Int) + 0) (by omega) (by omega), tw_s (a := ((bn_o f ce re cl n : Nat) : Int) + 1) (by omega) (by omega)]
      have i := ih (n + 1) (by omega) (by omega)
      rw [show ((n + 1 : Nat) : Int) = (n : Int) + 1 by omega] at i
      by_cases z : da_o cl (ce n) ≤ fo_o (al_o f (n : Int)) re
      · have e : bn_o f ce re cl (n + 1) = bn_o f ce re cl n + 1 := by
          show _ + (if ds_o _ _ _ _ _ then _ else _) = _
          rw [if_pos (show ds_o f ce re cl n = true from decide_eq_true z)]
        rw [e, show ((bn_o f ce re cl n + 1 : Nat) : Int) = ((bn_o f ce re cl n : Nat) : Int) + 1 by omega] at i
        rw [if_neg (by omega)]
        exact i
      · have e : bn_o f ce re cl (n + 1) = bn_o f ce re cl n := by
          show _ + (if ds_o _ _ _ _ _ then _ else _) = _
          rw [if_neg (show ¬ ds_o f ce re cl n = true from fun y => z (of_decide_eq_true y))]
          rfl
        rw [e] at i
        rw [if_pos (by omega), Int.add_zero]
        exact i
theorem lk_days {wh mo nm : Int} {da : Nat} {Dc Dm Df Dw : td_D} {F : Nat → Nat → Int} (hR : lw_R Dc Dm) (n1 : (da : Int) = nm % 100) (n0 : 0 ≤ nm) (d2 : da ≤ 30) (D2 : Df 2 = Dc 2) (D4 : Df 4 = Dc 4) (G : ∀ e h : Nat, e < da → (h : Int) < Dc 2 1 → Df 59 (5 * e + h) = fo_o (al_o (F e) (h : Int)) (Dc 2 10)) (ST : ∀ e : Nat, e < da → gd_o tf_N Dm (Dc 2 0) (Dc 2 1) (e : Int) 0 (F e) (F (e + 1))) (kc : Int → Int → Int → Int → Int → Int → Int → td_D → Option (Int × td_D)) (km : Int → Int → Int → Int → Int → Int → td_D → Option (Int × td_D)) {n : Int} (K : ∀ (z s t : Int) (E : td_D), tv_in s → tv_in t → fm_o Dm E → lk_s (kc wh mo (da : Int) z s t (tv_w (n + 1)) Df) (km nm wh z s t (tv_w (n + 1)) E) Dw Dm) : ∀ (m d : Nat) (z s t : Int) (E : td_D), d ≤ 30 → 30 - d < m → tv_in s → tv_in t → fm_o Dm E → p_th (Dc 2 0) (Dc 2 1) (F d) (E 21) → lk_s (F_X11_drawn_83 kc m wh mo (da : Int) z s t n (d : Int) Df) (F_X12_drawn_69 km m nm wh z s t n (d : Int) E) Dw Dm := by
  obtain ⟨⟨⟨l1, l1a, l1b⟩, ⟨l2, l2a, l2b⟩, ⟨l3, l3a, l3b⟩, lon, lce, -⟩, ⟨-, ⟨s2, s2a, s2b⟩, -⟩, -⟩ := id hR
  intro m
  induction m with
  | zero => intro d z s t E q1 q2; omega
  | succ m ih =>
    intro d z s t E q1 q2 hs ht fE th
    unfold F_X11_drawn_83 F_X12_drawn_69
    rw [tv_rme n0, ← n1]
    by_cases c : (da : Int) ≤ (d : Int)
    · rw [if_pos c, if_pos c]
      exact K z s t E hs ht fE
    · have eE1 : E 1 = Dm 1 := fE 1 (by decide) (by decide) (by decide) (by decide)
      have eE3 : E 3 = Dm 3 := fE 3 (by decide) (by decide) (by decide) (by decide)
      have eE8 : E 8 = Dm 8 := fE 8 (by decide) (by decide) (by decide) (by decide)
      rw [if_neg c, if_neg c]
      generalize tv_w (tv_w (z * 1103515245) + 12345) = z'
      have ub := us_b z'
      rw [tv_rme ub.1.1, tv_rme ub.2.1, tw_s (a := 10 * (tv_ushr z' 12 % 10)) (by omega) (by omega), tw_s (a := tv_ushr z' 6 % 10 + 10 * (tv_ushr z' 12 % 10)) (by omega) (by omega), tw_s (a := 10 * (tv_ushr z' 12 % 10) + tv_ushr z' 6 % 10) (by omega) (by omega), show 10 * (tv_ushr z' 12 % 10) + tv_ushr z' 6 % 10 = tv_ushr z' 6 % 10 + 10 * (tv_ushr z' 12 % 10) by omega]
      obtain ⟨cl, hcl⟩ : ∃ cl : Int, cl = tv_ushr z' 6 % 10 + 10 * (tv_ushr z' 12 % 10) := ⟨_, rfl⟩
      have cl1 : 0 ≤ cl ∧ cl ≤ 99 := by omega
      rw [← hcl]
      have S1 : F_X11_stingsOn (d : Int) cl Df = some (((bn_o (F d) (Dc 4) (Dc 2 10) cl (Dc 2 1).toNat : Nat) : Int), Df) := by
        unfold F_X11_stingsOn
        exact fe_on (d := d) (hi := Dc 2 1) (by omega) (by rw [D2]) l2a l2b (by rw [D4]; exact fun i hi => ⟨rfl, (lce i hi).2⟩) (fun h hh => G d h (by omega) hh) cl1.1 cl1.2 tf_N 0 (by omega) (by unfold tf_N; omega)
      have S2 := fm_sting (xy := cl) (pe := Dc 2 0) (hi := Dc 2 1) (re := Dc 2 10) (f := F d) (ce := Dc 4) (D := E) th (by rw [eE1]; exact l1) l1a l1b (by rw [eE1]; exact l2) (by rw [eE3]; exact lce) l2a l2b (by rw [eE8]; exact s2) s2a cl1.1 cl1.2
      rw [← bi_pc _ (show (Dc 2 1).toNat ≤ 5 by omega)] at S1
      rw [S1, S2, td_bs, td_bs]
      have b32 : bi_o (F d) (Dc 4) (Dc 2 10) cl (Dc 2 1).toNat < 32 := by
        have b := @bi_b (F d) (Dc 4) (Dc 2 10) cl (Dc 2 1).toNat
        have b2 : 2 ^ (Dc 2 1).toNat ≤ 2 ^ 5 := Nat.pow_le_pow_right (by omega) (by omega)
        omega
      clear S1 S2
      generalize bi_o (F d) (Dc 4) (Dc 2 10) cl (Dc 2 1).toNat = b at *
      have p0 := pc_0 ⟨b, b32⟩
      have p5 := pc_5 ⟨b, b32⟩
      simp only at p0 p5
      obtain ⟨E', a3, a4, a5⟩ := ST d (by omega) E fE th
      have ev : ((d + 1 : Nat) : Int) = (d : Int) + 1 := by omega
      rw [tw_s (a := (d : Int) + 1) (by omega) (by omega)]
      by_cases c0 : b = 0
      · have pz : pc_o b = 0 := p0.mpr c0
        rw [if_pos (show ((pc_o b : Nat) : Int) ≤ 0 by omega), if_pos (show ((b : Nat) : Int) = 0 by omega), fm_128 _ _ tf_N b s b32 (by unfold tf_N; omega) hs, a3, Int.add_zero, tv_w_id ht]
        have i := ih (d + 1) z' (tv_w (s + ((pc_o b : Nat) : Int))) t E' (by omega) (by omega) (tv_w_in _) ht a4 a5
        rw [ev] at i
        exact i
      · have pz : pc_o b ≠ 0 := fun w => c0 (p0.mp w)
        rw [if_neg (show ¬ ((pc_o b : Nat) : Int) ≤ 0 by omega), if_neg (show ¬ ((b : Nat) : Int) = 0 by omega), fm_128 _ _ tf_N b s b32 (by unfold tf_N; omega) hs, a3]
        have i := ih (d + 1) z' (tv_w (s + ((pc_o b : Nat) : Int))) (tv_w (t + 1)) E' (by omega) (by omega) (tv_w_in _) (tv_w_in _) a4 a5
        rw [ev] at i
        exact i
theorem lk_months {wh mo nm : Int} {da : Nat} {Dc Dm Df Dw : td_D} {F : Nat → Nat → Int} (hR : lw_R Dc Dm) (n1 : (da : Int) = nm % 100) (m1 : mo = nm / 100) (n0 : 0 ≤ nm) (n2 : nm ≤ 2147483647) (d2 : da ≤ 30) (m2 : mo ≤ 30) (D2 : Df 2 = Dc 2) (D4 : Df 4 = Dc 4) (G : ∀ e h : Nat, e < da → (h : Int) < Dc 2 1 → Df 59 (5 * e + h) = fo_o (al_o (F e) (h : Int)) (Dc 2 10)) (ST : ∀ e : Nat, e < da → gd_o tf_N Dm (Dc 2 0) (Dc 2 1) (e : Int) 0 (F e) (F (e + 1))) (P0 : ∀ E : td_D, fm_o Dm E → p_th (Dc 2 0) (Dc 2 1) (F 0) (cp_o E 4 21 0 30 21)) (FC : fr_c Dw Df) : ∀ (m : Nat) (n z s t : Int) (E : td_D), 0 ≤ n → n ≤ 30 → 30 - n < m → tv_in s → tv_in t → fm_o Dm E → lk_s (F_X11_drawn_73 m wh mo (da : Int) z s t n Df) (F_X12_drawn_53 m nm wh z s t n E) Dw Dm := by
  intro m
  induction m with
  | zero => intro n z s t E q1 q2 q3; omega
  | succ m ih =>
    intro n z s t E q1 q2 q3 hs ht fE
    unfold F_X11_drawn_73 F_X12_drawn_53
    rw [tv_dv n0 n2 (by omega), ← m1]
    by_cases c : mo ≤ n
    · rw [if_pos c, if_pos c]
      split <;> exact lk_1 rfl FC (fm_of fE)
    · rw [if_neg c, if_neg c, fm_layNow, td_bs]
      refine lk_days hR n1 n0 d2 D2 D4 G ST _ _ (n := n) (fun z s t E hs ht fE => ?_) tf_N 0 z s t _ (by omega) (by unfold tf_N; omega) hs ht (fun r r1 r2 r3 r4 => (cp_row r3).trans (fE r r1 r2 r3 r4)) (P0 E fE)
      rw [tw_s (a := n + 1) (by omega) (by omega)]
      exact ih (n + 1) z s t E (by omega) (by omega) (by omega) hs ht fE
theorem st_24 : ls_24 lw_R := by
  intro a1 a2 a3 Dc Dm _ i2 _ _ hR
  unfold F_X11_drawn F_X12_drawn
  have j2 := i2.2
  by_cases c0 : a2 < 0
  · rw [if_pos c0, if_pos c0]
    exact lk_R (lk_0 rfl) hR
  · rw [if_neg c0, if_neg c0, tv_dv (by omega) j2 (by omega), tv_rme (by omega)]
    simp only [fm_in, tb_s, tf_0]
    by_cases c1 : 1 ≤ a2 / 100 ∧ a2 / 100 ≤ 30
    · have nn1 : ¬ ¬ (1 ≤ a2 / 100 ∧ a2 / 100 ≤ 30) := fun q => q c1
      simp only [if_neg nn1, if_neg (show ¬ a2 / 100 < 1 by omega), if_neg (show ¬ 30 < a2 / 100 by omega)]
      by_cases c2 : 1 ≤ a2 % 100 ∧ a2 % 100 ≤ 30
      · have nn2 : ¬ ¬ (1 ≤ a2 % 100 ∧ a2 % 100 ≤ 30) := fun q => q c2
        simp only [if_neg nn2, if_neg (show ¬ a2 % 100 < 1 by omega), if_pos c2.2]
        by_cases c3 : 0 ≤ a3 ∧ a3 ≤ 1
        · have nn3 : ¬ ¬ (0 ≤ a3 ∧ a3 ≤ 1) := fun q => q c3
          simp only [if_neg nn3, if_neg (show ¬ a3 < 0 by omega), if_pos c3.2]
          obtain ⟨da, hda⟩ : ∃ da : Nat, (da : Int) = a2 % 100 := ⟨(a2 % 100).toNat, by omega⟩
          rw [← hda]
          obtain ⟨w1, w2, w3⟩ := dy_now (D := Dc) (E := Dm) hR ⟨fun _ _ _ _ _ _ => rfl, fun _ _ _ _ _ => rfl⟩ rfl
          have w1' : dy_o (wf_o Dc (Dc 59)) Dm (td_cpy Dc 6 0 22 0 30) (cp_o Dm 4 21 0 30) := ⟨fun r r1 r2 r3 r4 r5 => by
            by_cases z : r = 59
            · rw [z, wf_at]
              exact tc_row (by decide)
            · rw [wf_ne z]
              exact w1.1 r r1 r2 r3 r4 r5, w1.2⟩
          obtain ⟨D', E', g', F, b1, b2, b3, b4, -, b6, b7⟩ := lk_fd (da := da) hR (by omega) tf_N 0 _ _ _ (by omega) (by unfold tf_N; omega) w1' w3 w2
          have f1 : F_X11_foreseeMonth (da : Int) Dc = some (0, D') := by
            unfold F_X11_foreseeMonth
            rw [fe_now, td_bs]
            exact b1
          rw [f1]
          simp only [tb_s]
          have D'59 : D' 59 = g' := (b2.1 59 (by decide) (by decide) (by decide) (by decide) (by decide)).trans wf_at
          refine lk_R (Dc := wf_o Dc g') ?_ (wf_R hR)
          exact lk_months (F := F) hR hda rfl (by omega) j2 (by omega) c1.2 ((b2.1 2 (by decide) (by decide) (by decide) (by decide) (by decide)).trans (wf_ne (by decide))) ((b2.1 4 (by decide) (by decide) (by decide) (by decide) (by decide)).trans (wf_ne (by decide))) (fun e h y1 y2 => by rw [D'59]; exact b6 e h (by omega) y1 y2) (fun e y1 => b7 e (by omega) y1) (fun E fE => by
            rw [b4]
            exact (dy_now (D := Dc) (E := E) hR ⟨fun _ _ _ _ _ _ => rfl, fE⟩ rfl).2.2) (dy_fc b2 (b3.trans (wf_ne (by decide)).symm)) tf_N 0 a1 0 0 Dm (by omega) (by omega) (by unfold tf_N; omega) tv_in0 tv_in0 (fun _ _ _ _ _ => rfl)
        · simp only [if_pos c3]
          by_cases c4 : a3 < 0
          · simp only [if_pos c4]
            exact lk_R (lk_0 rfl) hR
          · simp only [if_neg c4, if_neg (show ¬ a3 ≤ 1 by omega)]
            exact lk_R (lk_0 rfl) hR
      · simp only [if_pos c2]
        by_cases c4 : a2 % 100 < 1
        · simp only [if_pos c4]
          exact lk_R (lk_0 rfl) hR
        · simp only [if_neg c4, if_neg (show ¬ a2 % 100 ≤ 30 by omega)]
          exact lk_R (lk_0 rfl) hR
    · simp only [if_pos c1]
      by_cases c4 : a2 / 100 < 1
      · simp only [if_pos c4]
        exact lk_R (lk_0 rfl) hR
      · simp only [if_neg c4, if_pos (show 30 < a2 / 100 by omega)]
        exact lk_R (lk_0 rfl) hR
