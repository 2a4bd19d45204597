theorem or_64 : ∀ b : Fin 64, ∀ p : Fin 6, 0 ≤ tv_or ((b : Nat) : Int) (tv_shl 1 ((p : Nat) : Int)) ∧ tv_or ((b : Nat) : Int) (tv_shl 1 ((p : Nat) : Int)) < 64 := by decide +kernel
theorem or_b {b p : Int} (h1 : 0 ≤ b) (h2 : b < 64) (h3 : 0 ≤ p) (h4 : p < 6) : 0 ≤ tv_or b (tv_shl 1 p) ∧ tv_or b (tv_shl 1 p) < 64 := by
  have z := or_64 ⟨b.toNat, by omega⟩ ⟨p.toNat, by omega⟩
  simp only [show ((b.toNat : Nat) : Int) = b by omega, show ((p.toNat : Nat) : Int) = p by omega] at z
  exact z
theorem or_0 : ∀ b : Fin 64, tv_or ((b : Nat) : Int) 0 = ((b : Nat) : Int) := by decide +kernel
theorem or_z {b : Int} (h1 : 0 ≤ b) (h2 : b < 64) : tv_or b 0 = b := by
  have z := or_0 ⟨b.toNat, by omega⟩
  simp only [show ((b.toNat : Nat) : Int) = b by omega] at z
  exact z
/-- whether one without a deed may do it -/
def fb_o (Dc : td_D) (d b p : Int) : Prop := tv_and (tv_shr b p) 1 = 0 ∧ Dc 7 d.toNat ≤ Dc 3 p.toNat ∧ Dc 3 p.toNat ≤ Dc 8 d.toNat
/-- worth, if he does it -/
def wb_o (Dc : td_D) (f : Nat → Int) (d b p : Int) : Int := Dc 9 d.toNat + f (64 * (d + 1) + tv_or b (tv_shl 1 p)).toNat
theorem fe_free {Dc D : td_D} (fc : fr_c Dc D) {d b p : Int} (d1 : 0 ≤ d) (d2 : d < 10) (p1 : 0 ≤ p) (p2 : p < 6) : (fb_o Dc d b p → F_X4_isFree d b p D = some (1, D)) ∧ (¬ fb_o Dc d b p → F_X4_isFree d b p D = some (0, D)) := by
  unfold F_X4_isFree fb_o
  rw [if_pos (show 0 ≤ p ∧ p < ((6 : Nat) : Int) by omega), fe_mayDo d1 d2, td_bs, fc.1 3 rfl, fc.1 7 rfl, fc.1 8 rfl]
  by_cases c : tv_and (tv_shr b p) 1 = 0
  · rw [if_pos c]
    refine ⟨fun h => ?_, fun h => ?_⟩
    · rw [tf_t h.2, if_neg (by decide)]
    · rw [tf_f (fun z => h ⟨c, z⟩), if_pos rfl]
  · rw [if_neg c]
    exact ⟨fun h => (c h.1).elim, fun _ => rfl⟩
theorem fm_take {Dc Dm E : td_D} (hR : lw_R Dc Dm) (fm : fr_m Dm E) {d b p : Int} (d1 : 0 ≤ d) (d2 : d < 10) (p1 : 0 ≤ p) (p2 : p < Dc 2 0) : (fb_o Dc d b p → F_X12_mayTake d b p E = some (1, E)) ∧ (¬ fb_o Dc d b p → F_X12_mayTake d b p E = some (0, E)) := by
  obtain ⟨⟨⟨l1, l1a, l1b⟩, ⟨l2, l2a, l2b⟩, ⟨l3, l3a, l3b⟩, lon, lce, lsh, lz, lnd, lmo, lwo, lnm⟩, -⟩ := id hR
  unfold F_X12_mayTake fb_o
  have e11 : E 1 1 = Dc 2 0 := by rw [fm.2 1 rfl]; exact l1
  rw [if_neg (show ¬ p = E 1 1 by omega), if_pos (show 0 ≤ p ∧ p < ((6 : Nat) : Int) by omega), fm_mayDo d1 d2, td_bs, fm.1 2 rfl, fm.1 5 rfl, fm.1 6 rfl, (lon p.toNat (by omega)).1, (lnd d.toNat (by omega)).1, (lmo d.toNat (by omega)).1]
  by_cases c : tv_and (tv_shr b p) 1 = 0
  · rw [if_pos c]
    refine ⟨fun h => ?_, fun h => ?_⟩
    · rw [tf_t h.2, if_neg (by decide)]
    · rw [tf_f (fun z => h ⟨c, z⟩), if_pos rfl]
  · rw [if_neg c]
    exact ⟨fun h => (c h.1).elim, fun _ => rfl⟩
/-- best worth from a deed on, as far as found -/
def wr_o (Dc : td_D) (f g : Nat → Int) (j : Nat) : Prop := g j = f j ∧ 0 ≤ f j ∧ f j ≤ 2000 - 99 * ((j / 64 : Nat) : Int)
theorem fe_worth {Dc D : td_D} (fc : fr_c Dc D) {d b p : Int} (d1 : 0 ≤ d) (d2 : d < 10) (b1 : 0 ≤ b) (b2 : b < 64) (p1 : 0 ≤ p) (p2 : p < 6) (w1 : 0 ≤ wb_o Dc (D 28) d b p) (w2 : wb_o Dc (D 28) d b p ≤ 10000) : F_X4_worthBy d b p D = some (wb_o Dc (D 28) d b p, D) := by
  have o := or_b b1 b2 p1 p2
  unfold F_X4_worthBy
  unfold wb_o at *
  rw [if_pos (by omega), tw_s (a := d + 1) (by omega) (by omega), tw_s (a := (d + 1) * 64) (by omega) (by omega), show (d + 1) * 64 = 64 * (d + 1) by omega, tw_s (a := 64 * (d + 1) + tv_or b (tv_shl 1 p)) (by omega) (by omega), if_pos (by omega), fc.1 9 rfl, tw_s (by omega) (by omega)]
theorem fm_worth {Dc Dm E : td_D} (hR : lw_R Dc Dm) (fm : fr_m Dm E) {f : Nat → Int} {d b p : Int} (d1 : 0 ≤ d) (d2 : d < 10) (b1 : 0 ≤ b) (b2 : b < 64) (p1 : 0 ≤ p) (p2 : p < Dc 2 0) (hf : E 25 (64 * (d + 1) + tv_or b (tv_shl 1 p)).toNat = f (64 * (d + 1) + tv_or b (tv_shl 1 p)).toNat) (w1 : 0 ≤ wb_o Dc f d b p) (w2 : wb_o Dc f d b p ≤ 10000) : F_X12_worthBy d b p E = some (wb_o Dc f d b p, E) := by
  obtain ⟨⟨⟨l1, l1a, l1b⟩, ⟨l2, l2a, l2b⟩, ⟨l3, l3a, l3b⟩, lon, lce, lsh, lz, lnd, lmo, lwo, lnm⟩, -⟩ := id hR
  have o := or_b b1 b2 p1 (show p < 6 by omega)
  have e11 : E 1 1 = Dc 2 0 := by rw [fm.2 1 rfl]; exact l1
  unfold F_X12_worthBy
  unfold wb_o at *
  rw [if_neg (by omega), if_pos (by omega), tw_s (a := d + 1) (by omega) (by omega), tw_s (a := 64 * (d + 1)) (by omega) (by omega), tw_s (a := 64 * (d + 1) + tv_or b (tv_shl 1 p)) (by omega) (by omega), if_pos (by omega), hf, fm.1 7 rfl, (lwo d.toNat (by omega)).1, tw_s (by omega) (by omega)]
/-- one entry -/
theorem lk_best {Dc Dm D E : td_D} (hR : lw_R Dc Dm) (fc : fr_c Dc D) (fm : fr_m Dm E) {d b : Int} (d1 : 0 ≤ d) (d2 : d < Dc 2 2) (b1 : 0 ≤ b) (b2 : b < 64) (hw : ∀ j : Nat, 64 * (d + 1) ≤ (j : Int) → (j : Int) < 64 * (Dc 2 2 + 1) → wr_o Dc (D 28) (E 25) j) (k5 : Int → td_D → Option (Int × td_D)) (k11 : Int → Int → td_D → Option (Int × td_D)) : ∀ (m : Nat) (v3 v4 p : Int), 0 ≤ p → p ≤ Dc 2 0 → Dc 2 0 + 1 - p < m → 0 ≤ v3 → v3 ≤ 2000 - 99 * d → (v4 = if D 28 (64 * (d + 1) + b).toNat ≤ v3 then v3 else D 28 (64 * (d + 1) + b).toNat) → (v4 = D 28 (64 * (d + 1) + b).toNat ∨ ∃ q : Int, 0 ≤ q ∧ q < Dc 2 0 ∧ fb_o Dc d b q ∧ wb_o Dc (D 28) d b q = v4) → ∃ r : Int, F_X4_bestFrom_18 m d b v4 p D = some (r, D) ∧ F_X12_findWho_22 k5 k11 m d b v3 p E = k11 d (b + 1) (td_upd E 25 (64 * d + b).toNat r) ∧ 0 ≤ r ∧ r ≤ 2000 - 99 * d ∧ (r = D 28 (64 * (d + 1) + b).toNat ∨ ∃ q : Int, 0 ≤ q ∧ q < Dc 2 0 ∧ fb_o Dc d b q ∧ wb_o Dc (D 28) d b q = r) := by
  obtain ⟨⟨⟨l1, l1a, l1b⟩, ⟨l2, l2a, l2b⟩, ⟨l3, l3a, l3b⟩, lon, lce, lsh, lz, lnd, lmo, lwo, lnm⟩, -⟩ := id hR
  have e11 : E 1 1 = Dc 2 0 := by rw [fm.2 1 rfl]; exact l1
  have e16 : E 1 6 = Dc 2 2 := by rw [fm.2 6 rfl]; exact l3
  have d20 : D 2 0 = Dc 2 0 := by rw [fc.1 2 rfl]
  have i0 := hw (64 * (d + 1) + b).toNat (by omega) (by omega)
  have b9 := lwo d.toNat (by omega)
  unfold wr_o at i0
  intro m
  induction m with
  | zero => intro v3 v4 p q1 q2 q3; omega
  | succ m ih =>
    intro v3 v4 p q1 q2 q3 v1 v2 hv hx
    unfold F_X4_bestFrom_18 F_X12_findWho_22
    rw [d20, e11, e16]
    by_cases c : Dc 2 0 ≤ p
    · have pe : p = Dc 2 0 := by omega
      rw [if_pos c, if_neg (show ¬ Dc 2 0 < p by omega), if_neg (show ¬ Dc 2 2 ≤ d by omega)]
      have t1 : F_X12_mayTake d b p E = some (1, E) := by
        unfold F_X12_mayTake
        rw [if_pos (by omega)]
      have t2 : F_X12_worthBy d b p E = some (D 28 (64 * (d + 1) + b).toNat, E) := by
        unfold F_X12_worthBy
        rw [if_pos (by omega), tw_s (a := d + 1) (by omega) (by omega), tw_s (a := 64 * (d + 1)) (by omega) (by omega), tw_s (a := 64 * (d + 1) + b) (by omega) (by omega), if_pos (by omega), i0.1]
      have fin : ∀ v : Int, 0 < m → F_X12_findWho_22 k5 k11 m d b v (p + 1) E = k11 d (b + 1) (td_upd E 25 (64 * d + b).toNat v) := by
        intro v hm
        obtain ⟨m', rfl⟩ : ∃ m' : Nat, m = m' + 1 := ⟨m - 1, by omega⟩
        unfold F_X12_findWho_22
        rw [if_pos (show E 1 1 < p + 1 by omega), tw_s (a := 64 * d) (by omega) (by omega), tw_s (a := 64 * d + b) (by omega) (by omega), if_pos (by omega), td_ls, tw_s (a := b + 1) (by omega) (by omega)]
      rw [t1, td_bs, if_neg (show ¬ (1 : Int) = 0 by decide), t2, td_bs, t2, td_bs, tw_s (a := p + 1) (by omega) (by omega), fin _ (by omega), fin _ (by omega)]
      refine ⟨v4, rfl, ?_, ?_, ?_, hx⟩
      · rw [hv]
        split <;> rfl
      · rw [hv]
        split <;> omega
      · rw [hv]
        have j64 : (((64 * (d + 1) + b).toNat / 64 : Nat) : Int) = d + 1 := by clear hx hv; omega
        rw [j64] at i0
        split <;> omega
    · have F1 := fe_free fc (b := b) d1 (show d < 10 by omega) q1 (show p < 6 by omega)
      have F2 := fm_take hR fm (b := b) d1 (show d < 10 by omega) q1 (show p < Dc 2 0 by omega)
      rw [if_neg c, if_neg (show ¬ Dc 2 0 < p by omega), if_neg (show ¬ Dc 2 2 ≤ d by omega), tw_s (a := p + 1) (by omega) (by omega)]
      by_cases e : fb_o Dc d b p
      · have o := or_b b1 b2 q1 (show p < 6 by omega)
        have i1 := hw (64 * (d + 1) + tv_or b (tv_shl 1 p)).toNat (by omega) (by omega)
        unfold wr_o at i1
        have j64 : (((64 * (d + 1) + tv_or b (tv_shl 1 p)).toNat / 64 : Nat) : Int) = d + 1 := by omega
        rw [j64] at i1
        have w1 : 0 ≤ wb_o Dc (D 28) d b p ∧ wb_o Dc (D 28) d b p ≤ 2000 - 99 * d := by
          unfold wb_o
          omega
        have W1 := fe_worth fc d1 (show d < 10 by omega) b1 b2 q1 (show p < 6 by omega) w1.1 (by omega)
        have W2 := fm_worth hR fm (f := D 28) d1 (show d < 10 by omega) b1 b2 q1 (show p < Dc 2 0 by omega) i1.1 w1.1 (by omega)
        have hw' : ∃ q : Int, 0 ≤ q ∧ q < Dc 2 0 ∧ fb_o Dc d b q ∧ wb_o Dc (D 28) d b q = wb_o Dc (D 28) d b p := ⟨p, q1, by omega, e, rfl⟩
        rw [F1.1 e, F2.1 e, td_bs, td_bs, if_neg (show ¬ (1 : Int) = 0 by decide), if_neg (show ¬ (1 : Int) = 0 by decide), W1, td_bs, W2, td_bs, W2, td_bs]
        generalize wb_o Dc (D 28) d b p = w at *
        unfold tv_max
        by_cases g : w ≤ v3
        · rw [if_pos g, if_neg (show ¬ v4 < w by rw [hv]; split <;> omega)]
          exact ih v3 v4 (p + 1) (by omega) (by omega) (by omega) v1 v2 hv hx
        · rw [if_neg g]
          by_cases g2 : v4 < w
          · rw [if_pos g2]
            exact ih w w (p + 1) (by omega) (by omega) (by omega) (by omega) w1.2 (by
              rw [hv] at g2
              rw [if_pos]
              split at g2 <;> omega) (Or.inr hw')
          · rw [if_neg g2]
            refine ih w v4 (p + 1) (by omega) (by omega) (by omega) (by omega) w1.2 ?_ hx
            rw [hv] at g2 ⊢
            (repeat' split) <;> (repeat' split at g2) <;> omega
      · rw [F1.2 e, F2.2 e, td_bs, td_bs, if_pos rfl, if_pos rfl]
        exact ih v3 v4 (p + 1) (by omega) (by omega) (by omega) v1 v2 hv hx
