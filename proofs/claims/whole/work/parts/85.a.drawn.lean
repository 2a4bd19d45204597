theorem bl_32 : ∀ v : Fin 32, (v : Nat) ≠ 0 → ∃ w : Fin 32, tv_and ((v : Nat) : Int) (tv_w (((v : Nat) : Int) - 1)) = ((w : Nat) : Int) ∧ pc_o (w : Nat) + 1 = pc_o (v : Nat) := by decide +kernel
theorem pc_0 : ∀ v : Fin 32, pc_o (v : Nat) = 0 ↔ (v : Nat) = 0 := by decide +kernel
theorem pc_5 : ∀ v : Fin 32, pc_o (v : Nat) ≤ 5 := by decide +kernel
theorem us_b (a : Int) : (0 ≤ tv_ushr a 6 ∧ tv_ushr a 6 ≤ 67108863) ∧ (0 ≤ tv_ushr a 12 ∧ tv_ushr a 12 ≤ 67108863) := by
  have key : ∀ (u : UInt32) (n : UInt32), (n = 6 ∨ n = 12) → 0 ≤ (u >>> n).toInt32.toInt ∧ (u >>> n).toInt32.toInt ≤ 67108863 := by
    intro u n hn
    have h1 : (u >>> n).toNat ≤ 67108863 := by
      rcases hn with rfl | rfl
      · rw [UInt32.toNat_shiftRight]
        have := u.toNat_lt
        rw [show (6 : UInt32).toNat % 32 = 6 from rfl, Nat.shiftRight_eq_div_pow]
        omega
      · rw [UInt32.toNat_shiftRight]
        have := u.toNat_lt
        rw [show (12 : UInt32).toNat % 32 = 12 from rfl, Nat.shiftRight_eq_div_pow]
        omega
    have h2 : (u >>> n).toInt32.toInt = ((u >>> n).toNat : Int) := by
      show ((u >>> n).toBitVec).toInt = _
      rw [BitVec.toInt_eq_toNat_cond]
      have e : (u >>> n).toBitVec.toNat = (u >>> n).toNat := rfl
      rw [e]
      split <;> omega
    rw [h2]
    omega
  exact ⟨key _ _ (Or.inl rfl), key _ _ (Or.inr rfl)⟩
theorem fm_128 (k53 : Int → Int → Int → Int → Int → Int → td_D → Option (Int × td_D)) (k69 : Int → Int → Int → Int → Int → Int → Int → td_D → Option (Int × td_D)) {v2 v3 v4 v6 v7 v8 : Int} {D : td_D} : ∀ (m b : Nat) (s : Int), b < 32 → pc_o b < m → tv_in s → F_X12_drawn_128 k53 k69 m v2 v3 v4 s v6 v7 v8 (b : Int) D = F_X12_drawn_151 k53 k69 tf_N v2 v3 v4 (tv_w (s + ((pc_o b : Nat) : Int))) v6 v7 v8 0 D := by
  intro m
  induction m with
  | zero => intro b s h1 h2; omega
  | succ m ih =>
    intro b s h1 h2 hs
    unfold F_X12_drawn_128
    by_cases c : b = 0
    · subst c
      rw [if_pos (by rfl), show pc_o 0 = 0 from by decide, show s + ((0 : Nat) : Int) = s by omega, tv_w_id hs]
    · obtain ⟨w, w1, w2⟩ := bl_32 ⟨b, h1⟩ c
      have w1' : tv_and (b : Int) (tv_w ((b : Int) - 1)) = ((w : Nat) : Int) := w1
      have w2' : pc_o (w : Nat) + 1 = pc_o b := w2
      rw [if_neg (by omega), w1', ih w (tv_w (s + 1)) w.2 (by omega) (tv_w_in _), ← w2']
      congr 1
      unfold tv_w
      omega
/-- the land, with how far hives sting on a month's days beside it -/
def wf_o (Dc : td_D) (g : Nat → Int) : td_D := fun r => if r = 59 then g else Dc r
theorem wf_ne {Dc : td_D} {g : Nat → Int} {r : Nat} (h : r ≠ 59) : wf_o Dc g r = Dc r := if_neg h
theorem wf_at {Dc : td_D} {g : Nat → Int} : wf_o Dc g 59 = g := if_pos rfl
theorem wf_R {Dc Dm : td_D} {g : Nat → Int} (hR : lw_R Dc Dm) : lw_R (wf_o Dc g) Dm := by
  unfold lw_R
  simp (disch := decide) only [wf_ne]
  exact hR
theorem wf_up {Dc Dm D E : td_D} {g : Nat → Int} {j : Nat} {v : Int} (dy : dy_o (wf_o Dc g) Dm D E) : dy_o (wf_o Dc (tv_up g j v)) Dm (td_upd D 59 j v) E := by
  refine ⟨fun r r1 r2 r3 r4 r5 => ?_, dy.2⟩
  have h := dy.1 r r1 r2 r3 r4 r5
  by_cases z : r = 59
  · subst z
    rw [tu_at, h, wf_at, wf_at]
  · rw [tu_row z, h, wf_ne z, wf_ne z]
/-- what of the model a day leaves -/
def fm_o (Dm E : td_D) : Prop := ∀ r : Nat, r ≠ 19 → r ≠ 20 → r ≠ 21 → r ≠ 22 → E r = Dm r
theorem fm_of {Dm E : td_D} (h : fm_o Dm E) : fr_m Dm E :=
  ⟨fun r q => h r (fun w => by rw [w] at q; cases q) (fun w => by rw [w] at q; cases q) (fun w => by rw [w] at q; cases q) (fun w => by rw [w] at q; cases q), fun j _ => by rw [h 1 (by decide) (by decide) (by decide) (by decide)]⟩
theorem sq_cw {f g : Nat → Int} {b : Nat} : ∀ n : Nat, (∀ k : Nat, k < n → f (b + k) = g (b + k)) → sq_o f b n = sq_o g b n := by
  intro n
  induction n with
  | zero => intro _; rfl
  | succ n ih =>
    intro h
    show sq_o f b n + f (b + n) = sq_o g b n + g (b + n)
    rw [ih (fun k hk => h k (by omega)), h n (by omega)]
theorem al_cw {f g : Nat → Int} {h : Nat} (hf : ∀ i : Nat, 6 * h ≤ i → i < 6 * h + 6 → f i = g i) : al_o f (h : Int) = al_o g (h : Int) := by
  unfold al_o
  exact sq_cw 6 (fun k hk => hf _ (by omega) (by omega))
theorem lk_dayw {Dc Dm D E : td_D} {g : Nat → Int} {h d : Int} (hR : lw_R Dc Dm) (dy : dy_o (wf_o Dc g) Dm D E) (ht : p_th (Dc 2 0) (Dc 2 1) (D 22) (E 21)) (h1 : 0 ≤ h) (h2 : h < Dc 2 1) : ∃ (c : Int) (D' E' : td_D), (∀ i : Nat, i < 30 → ¬ (6 * h ≤ (i : Int) ∧ (i : Int) < 6 * h + 6) → D' 22 i = D 22 i) ∧ F_X11_passDay 21 h d D = some (c, D') ∧ F_X12_goDay h d E = some (c, E') ∧ (c = 0 ∨ c = 1) ∧ dy_o (wf_o Dc g) Dm D' E' ∧ p_th (Dc 2 0) (Dc 2 1) (D' 22) (E' 21) ∧ (∀ x : Nat, x ≠ 22 → x ≠ 15 → x ≠ 19 → x ≠ 20 → D' x = D x) ∧ ∀ x : Nat, x ≠ 19 → x ≠ 20 → x ≠ 21 → x ≠ 22 → E' x = E x := by
  have L := lk_day2 (q := 21) (r := 22) (h := h) (d := d) (Dc := wf_o Dc g) tr_21 (Or.inr rfl) (wf_R hR) dy
  rw [wf_ne (r := 2) (by decide)] at L
  exact L ht h1 h2
