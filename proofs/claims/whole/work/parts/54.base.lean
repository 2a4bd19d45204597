theorem tv_dv {a b : Int} (h : 0 ≤ a) (h2 : a ≤ 2147483647) (hb : 0 < b) : tv_div a b = a / b := by
  unfold tv_div
  rw [Int.tdiv_eq_ediv_of_nonneg h]
  have h3 : 0 ≤ a / b := Int.ediv_nonneg h (by omega)
  have h4 : a / b ≤ a := Int.ediv_le_self b h
  exact tw_s (by omega) (by omega)
theorem tv_rme {a b : Int} (h : 0 ≤ a) : tv_rem a b = a % b := by
  unfold tv_rem
  exact Int.tmod_eq_emod_of_nonneg h
theorem tr_5 : td_r g_c 5 0 = 6 := rfl
theorem tr_21 : td_r g_c 21 0 = 22 := rfl
theorem tr_39 : td_r g_c 39 0 = 40 := rfl
theorem tr_46 {k : Nat} (h : k < 6) : td_r g_c 46 k = 47 + 2 * k := by
  have q : ∀ i : Fin 6, td_r g_c 46 i = 47 + 2 * (i : Nat) := by decide +kernel
  exact q ⟨k, h⟩
theorem tr_sh {k : Nat} (h : k < 6) : td_r g_c (47 + 2 * k) 3 = 48 + 2 * k := by
  have q : ∀ i : Fin 6, td_r g_c (47 + 2 * (i : Nat)) 3 = 48 + 2 * (i : Nat) := by decide +kernel
  exact q ⟨k, h⟩
theorem tf_n1 {b : Prop} [Decidable b] : tv_tf b = 0 ∨ tv_tf b = 1 := tf_01
/-- what no call's answer rests on: the component's -/
def fr_cs (r : Nat) : Bool := match r with
  | 10 => true | 15 => true | 19 => true | 20 => true | 22 => true | 24 => true | 25 => true | 26 => true | 28 => true | 29 => true | 30 => true | 31 => true
  | _ => false
def fr_ms (r : Nat) : Bool := match r with
  | 1 => true | 19 => true | 20 => true | 21 => true | 22 => true | 23 => true | 24 => true | 25 => true | 26 => true | 27 => true | 28 => true | 29 => true | 30 => true | 40 => true
  | _ => false
def fr_mf (j : Nat) : Bool := match j with
  | 19 => true | 20 => true | 21 => true | 22 => true | 35 => true | 36 => true
  | _ => false
def fr_c (D D' : td_D) : Prop := (∀ r : Nat, fr_cs r = false → D' r = D r) ∧ D' 10 1 = D 10 1
def fr_m (D D' : td_D) : Prop := (∀ r : Nat, fr_ms r = false → D' r = D r) ∧ ∀ j : Nat, fr_mf j = false → D' 1 j = D 1 j
theorem fr_c0 (D : td_D) : fr_c D D := ⟨fun _ _ => rfl, rfl⟩
theorem fr_m0 (D : td_D) : fr_m D D := ⟨fun _ _ => rfl, fun _ _ => rfl⟩
theorem fr_ct {A B C : td_D} (h : fr_c A B) (h2 : fr_c B C) : fr_c A C := ⟨fun r q => (h2.1 r q).trans (h.1 r q), h2.2.trans h.2⟩
theorem fr_mt {A B C : td_D} (h : fr_m A B) (h2 : fr_m B C) : fr_m A C := ⟨fun r q => (h2.1 r q).trans (h.1 r q), fun j q => (h2.2 j q).trans (h.2 j q)⟩
theorem fr_cu {D : td_D} {r j : Nat} {v : Int} (h : fr_cs r = true) (h2 : ¬ (r = 10 ∧ j = 1)) : fr_c D (td_upd D r j v) := by
  refine ⟨fun r' q => tu_row (fun e => by rw [e, h] at q; cases q), ?_⟩
  show (if _ then _ else _) = _
  rw [if_neg (fun e => h2 ⟨e.1.symm, e.2.symm⟩)]
theorem fr_mu {D : td_D} {r j : Nat} {v : Int} (h : fr_ms r = true) (h2 : r = 1 → fr_mf j = true) : fr_m D (td_upd D r j v) := by
  refine ⟨fun r' q => tu_row (fun e => by rw [e, h] at q; cases q), fun j' q => ?_⟩
  show (if _ then _ else _) = _
  rw [if_neg (fun e => by rw [e.2, h2 e.1.symm] at q; cases q)]
theorem fr_R {Dc Dm Dc' Dm' : td_D} (hR : lw_R Dc Dm) (hc : fr_c Dc Dc') (hm : fr_m Dm Dm') : lw_R Dc' Dm' := by
  obtain ⟨c1, c2⟩ := hc
  obtain ⟨m1, m2⟩ := hm
  unfold lw_R
  simp only [c1 1 rfl, c1 2 rfl, c1 3 rfl, c1 4 rfl, c1 6 rfl, c1 7 rfl, c1 8 rfl, c1 9 rfl, c2, c1 11 rfl, c1 12 rfl, c1 16 rfl, c1 13 rfl, c1 14 rfl, c1 17 rfl, c1 18 rfl, c1 32 rfl, c1 33 rfl, c1 34 rfl, c1 35 rfl, c1 36 rfl, c1 42 rfl, c1 37 rfl, c1 38 rfl, c1 40 rfl, c1 41 rfl, c1 43 rfl, c1 44 rfl, c1 45 rfl, c1 47 rfl, c1 48 rfl, c1 49 rfl, c1 50 rfl, c1 51 rfl, c1 52 rfl, c1 53 rfl, c1 54 rfl, c1 55 rfl, c1 56 rfl, c1 57 rfl, c1 58 rfl,
    m1 2 rfl, m1 3 rfl, m1 4 rfl, m1 5 rfl, m1 6 rfl, m1 7 rfl, m1 8 rfl, m1 9 rfl, m1 10 rfl, m1 11 rfl, m1 12 rfl, m1 13 rfl, m1 14 rfl, m1 15 rfl, m1 16 rfl, m1 17 rfl, m1 18 rfl, m1 31 rfl, m1 32 rfl, m1 33 rfl, m1 34 rfl, m1 35 rfl, m1 36 rfl, m1 37 rfl, m1 38 rfl, m1 39 rfl,
    m2 1 rfl, m2 3 rfl, m2 6 rfl, m2 11 rfl, m2 12 rfl, m2 18 rfl, m2 30 rfl, m2 44 rfl, m2 45 rfl, m2 46 rfl, m2 50 rfl, m2 52 rfl]
  exact hR
/-- both answer alike, and change nothing that answers rest on -/
def lk_s (x y : Option (Int × td_D)) (Dc Dm : td_D) : Prop := ∃ (r : Int) (D1 D2 : td_D), x = some (r, D1) ∧ y = some (r, D2) ∧ fr_c Dc D1 ∧ fr_m Dm D2
theorem lk_R {x y : Option (Int × td_D)} {Dc Dm : td_D} (h : lk_s x y Dc Dm) (hR : lw_R Dc Dm) : lw_eq lw_R x y := by
  obtain ⟨r, D1, D2, h1, h2, h3, h4⟩ := h
  exact ⟨r, D1, D2, h1, h2, fr_R hR h3 h4⟩
theorem lk_0 {r r2 : Int} {Dc Dm : td_D} (h : r = r2) : lk_s (some (r, Dc)) (some (r2, Dm)) Dc Dm := ⟨r, Dc, Dm, rfl, by rw [h], fr_c0 _, fr_m0 _⟩
theorem lk_1 {r r2 : Int} {Dc Dm D1 D2 : td_D} (h : r = r2) (h3 : fr_c Dc D1) (h4 : fr_m Dm D2) : lk_s (some (r, D1)) (some (r2, D2)) Dc Dm := ⟨r, D1, D2, rfl, by rw [h], h3, h4⟩
theorem lk_t {x y : Option (Int × td_D)} {Dc Dm D1 D2 : td_D} (h : lk_s x y D1 D2) (h3 : fr_c Dc D1) (h4 : fr_m Dm D2) : lk_s x y Dc Dm := by
  obtain ⟨r, E1, E2, h1, h2, h5, h6⟩ := h
  exact ⟨r, E1, E2, h1, h2, fr_ct h3 h5, fr_mt h4 h6⟩
theorem fe_share {q : Nat} {h p : Int} {D : td_D} (h1 : 0 ≤ h) (h2 : h < 5) (p1 : 0 ≤ p) (p2 : p < 6) : F_X7_share q h p D = some (D (td_r g_c q 0) (6 * h + p).toNat, D) := by
  unfold F_X7_share
  rw [tw_s (a := h * 6) (by omega) (by omega), tw_s (a := h * 6 + p) (by omega) (by omega), if_pos (by omega), Int.mul_comm]
theorem fe_lay {q : Nat} {h p v : Int} {D : td_D} (h1 : 0 ≤ h) (h2 : h < 5) (p1 : 0 ≤ p) (p2 : p < 6) : F_X7_lay q h p v D = some (0, td_upd D (td_r g_c q 0) (6 * h + p).toNat v) := by
  unfold F_X7_lay
  rw [tw_s (a := h * 6) (by omega) (by omega), tw_s (a := h * 6 + p) (by omega) (by omega), if_pos (by omega), td_ls, Int.mul_comm]
theorem fe_isShare {a : Int} {D : td_D} (hi : tv_in a) : F_X3_isShare a D = some (tv_tf (0 ≤ a ∧ a / 10 < D 2 1 ∧ a % 10 < D 2 0), D) := by
  unfold F_X3_isShare
  by_cases h : a < 0
  · rw [if_pos h, tf_f (by omega)]
  · rw [if_neg h, tv_dv (by omega) hi.2 (by omega), tv_rme (by omega)]
    simp only [fe_isHive, fe_isPerson, td_bs, tf_0]
    unfold tv_tf
    (repeat' split) <;> first | rfl | omega
theorem fm_areHis {a : Int} {D : td_D} (hi : tv_in a) (h1 : 0 ≤ D 1 1 ∧ D 1 1 ≤ 6) (h3 : 0 ≤ D 1 3 ∧ D 1 3 ≤ 5) : F_X12_areHis a D = some (tv_tf (0 ≤ a ∧ a / 10 < D 1 3 ∧ a % 10 < D 1 1), D) := by
  unfold F_X12_areHis
  by_cases h : a < 0
  · rw [if_pos h, tf_f (by omega)]
  · rw [if_neg h, tv_dv (by omega) hi.2 (by omega), tv_rme (by omega), fm_isHive _ h3, td_bs, fm_isPerson _ h1, td_bs]
    simp only [tf_0]
    unfold tv_tf
    (repeat' split) <;> first | rfl | omega
/-- leave -/
def kc_o (v : Int) (D : td_D) : Int := tv_w (tv_w (tv_max 0 (tv_w (D 2 11 - tv_div v 10)) * D 2 12) + tv_w (12 * tv_div v 5))
theorem fe_cost (v : Int) (D : td_D) : F_X11_costOfHaving v D = some (kc_o v D, D) := rfl
theorem fm_cost {v : Int} {Dc Dm : td_D} (h1 : 0 ≤ v) (h2 : v ≤ 99) (h3 : Dm 8 2 = Dc 2 11) (h4 : Dm 8 3 = Dc 2 12) (h5 : 0 ≤ Dc 2 11) (h6 : Dc 2 11 ≤ 12) : F_X12_costBy v Dm = some (kc_o v Dc, Dm) := by
  unfold F_X12_costBy kc_o tv_max
  show (if Dm 8 2 ≤ _ then some (tv_w (tv_w (0 * Dm 8 3) + _), _) else some (tv_w (tv_w (tv_w (Dm 8 2 - _) * Dm 8 3) + _), _)) = _
  rw [h3, h4, tv_dv (b := 10) h1 (by omega) (by omega), tw_s (a := Dc 2 11 - v / 10) (by omega) (by omega)]
  by_cases c : Dc 2 11 ≤ v / 10
  · rw [if_pos c, if_neg (by omega)]
  · rw [if_neg c, if_pos (by omega)]
theorem lk_leave {a : Int} {Dc Dm : td_D} (h3 : Dm 8 2 = Dc 2 11) (h4 : Dm 8 3 = Dc 2 12) (h5 : 0 ≤ Dc 2 11) (h6 : Dc 2 11 ≤ 12) : ∀ (n : Nat) (v2 v3 : Int), 0 ≤ v2 → v2 ≤ 99 → 1 ≤ v3 → v3 ≤ 100 → 100 - v3 < n → lk_s (F_X11_leave_15 n a v2 v3 Dc) (F_X12_leave_15 n a v2 v3 Dm) Dc Dm := by
  intro n
  induction n with
  | zero => intro v2 v3 a1 a2 a3 a4 a5; omega
  | succ n ih =>
    intro v2 v3 a1 a2 a3 a4 a5
    unfold F_X11_leave_15 F_X12_leave_15
    simp only [fe_cost, td_bs]
    by_cases c : 99 < v3
    · rw [if_pos c, if_pos c, fm_cost a1 a2 h3 h4 h5 h6, td_bs]
      split <;> exact lk_0 rfl
    · rw [if_neg c, if_neg c, fm_cost (v := v3) (by omega) (by omega) h3 h4 h5 h6, td_bs, fm_cost a1 a2 h3 h4 h5 h6, td_bs, tw_s (a := v3 + 1) (by omega) (by omega)]
      split
      · exact ih _ _ a1 a2 (by omega) (by omega) (by omega)
      · exact ih _ _ (by omega) (by omega) (by omega) (by omega) (by omega)
theorem st_20 : ls_20 lw_R := by
  intro a1 Dc Dm _ _ hR
  obtain ⟨-, ⟨-, -, ⟨s3, s3a, s3b⟩, ⟨s4, -, -⟩⟩, -⟩ := id hR
  refine lk_R ?_ hR
  unfold F_X11_leave F_X12_leave
  simp only [fm_in, td_bs, tf_0]
  by_cases c : 0 ≤ a1 ∧ a1 ≤ 1
  · rw [if_neg (by omega), if_pos (by omega), if_neg (by omega)]
    exact lk_leave s3 s4 s3a s3b _ 0 1 (by omega) (by omega) (by omega) (by omega) (by unfold tf_N; omega)
  · rw [if_pos (show ¬ (0 ≤ a1 ∧ a1 ≤ 1) from c)]
    (repeat' split) <;> first | (exfalso; omega) | exact lk_0 rfl
/-- from -/
theorem lk_from {p v : Int} {Dc Dm : td_D} (h1 : Dm 1 3 = Dc 2 1) (h2 : Dc 2 1 ≤ 5) (p1 : 0 ≤ p) (p2 : p < 6) (hon : Dm 2 p.toNat = Dc 3 p.toNat) (hsh : ∀ i : Nat, i < 30 → Dm 4 i = Dc 6 i) : ∀ (n : Nat) (v3 v4 : Int), 0 ≤ v4 → v4 ≤ 5 → 5 - v4 < n → lk_s (F_X11_from_29 n p v v3 v4 Dc) (F_X12_from_25 n p v v3 v4 Dm) Dc Dm := by
  intro n
  induction n with
  | zero => intro v3 v4 a1 a2 a3; omega
  | succ n ih =>
    intro v3 v4 a1 a2 a3
    unfold F_X11_from_29 F_X12_from_25
    rw [h1]
    by_cases c : Dc 2 1 ≤ v4
    · rw [if_pos c, if_pos c]
      exact lk_0 rfl
    · simp (disch := omega) only [if_pos, if_neg, tw_s, td_bs, fe_share, tr_5, hon, hsh]
      by_cases c2 : Dc 3 p.toNat < v
      · simp only [if_pos c2]
        exact ih _ _ (by omega) (by omega) (by omega)
      · simp only [if_neg c2]
        split <;> exact ih _ _ (by omega) (by omega) (by omega)
theorem st_22 : ls_22 lw_R := by
  intro a1 a2 Dc Dm _ _ _ hR
  obtain ⟨⟨⟨l1, l1a, l1b⟩, ⟨l2, l2a, l2b⟩, ⟨l3, l3a, l3b⟩, lon, lce, lsh, lz, lnd, lmo, lwo, lnm⟩, -⟩ := id hR
  refine lk_R ?_ hR
  unfold F_X11_from F_X12_from
  rw [fe_isPerson, fm_isPerson _ ⟨by omega, by omega⟩]
  simp only [fm_in, td_bs, tf_0, l1]
  by_cases c : 0 ≤ a1 ∧ a1 < Dc 2 0
  · by_cases c2 : 1 ≤ a2 ∧ a2 ≤ 99
    · simp (disch := omega) only [if_pos, if_neg]
      exact lk_from l2 l2b c.1 (by omega) (lon _ (by omega)).1 (fun i hi => (lsh i hi).1) _ 0 0 (by omega) (by omega) (by unfold tf_N; omega)
    · simp only [if_neg (show ¬ ¬ (0 ≤ a1 ∧ a1 < Dc 2 0) from fun q => q c), if_pos c2]
      (repeat' split) <;> first | (exfalso; omega) | exact lk_0 rfl
  · simp only [if_pos c]
    exact lk_0 rfl
