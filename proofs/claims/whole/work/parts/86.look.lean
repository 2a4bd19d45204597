/-- how many hives sting in a cell -/
def wi_o (Dc : td_D) (c : Nat) : Int := ((bn_o (Dc 6) (Dc 4) (Dc 2 10) (c : Int) (Dc 2 1).toNat : Nat) : Int)
theorem bn_l {f ce : Nat → Int} {re xy : Int} : ∀ n : Nat, bn_o f ce re xy n ≤ n := by
  intro n
  induction n with
  | zero => exact Nat.le_refl _
  | succ n ih =>
    show bn_o f ce re xy n + (if ds_o f ce re xy n then 1 else 0) ≤ n + 1
    split <;> omega
theorem fe_look_47 {h far : Int} (kk : Int → td_D → Option (Int × td_D)) (h1 : 0 ≤ h) (h2 : h < 5) : ∀ (m : Nat) (v : Int) (D : td_D), 0 ≤ v → v ≤ 100 → 100 - v < m → 0 ≤ D 4 h.toNat → D 4 h.toNat ≤ 99 → (∀ i : Nat, i < 100 → v ≤ (i : Int) → 0 ≤ D 24 i ∧ D 24 i ≤ 100) → ∃ D' : td_D, F_X10_look_47 kk m h far v D = kk (h + 1) D' ∧ (∀ x : Nat, x ≠ 24 → D' x = D x) ∧ ∀ i : Nat, i < 100 → D' 24 i = if v ≤ (i : Int) then D 24 i + (if da_o (i : Int) (D 4 h.toNat) ≤ far then 1 else 0) else D 24 i := by
  intro m
  induction m with
  | zero => intro v D q1 q2 q3; omega
  | succ m ih =>
    intro v D q1 q2 q3 c1 c2 hb
    unfold F_X10_look_47
    by_cases c : 100 ≤ v
    · rw [if_pos c, tw_s (a := h + 1) (by omega) (by omega)]
      refine ⟨D, rfl, fun _ _ => rfl, fun i hi => ?_⟩
      rw [if_neg (by omega)]
    · have b := hb v.toNat (by omega) (by omega)
      have db := da_b q1 (show v ≤ 99 by omega) c1 c2
      rw [if_neg c, if_pos (by omega), if_pos (by omega), fe_apart q1 (by omega) c1 c2, td_bs, tw_s (a := v + 1) (by omega) (by omega), tw_s (a := D 24 v.toNat + 1) (by omega) (by omega), tw_s (a := D 24 v.toNat + 0) (by omega) (by omega)]
      have go : ∀ x : Int, (x = D 24 v.toNat + (if da_o v (D 4 h.toNat) ≤ far then 1 else 0)) → ∃ D' : td_D, F_X10_look_47 kk m h far (v + 1) (td_upd D 24 v.toNat x) = kk (h + 1) D' ∧ (∀ x : Nat, x ≠ 24 → D' x = D x) ∧ ∀ i : Nat, i < 100 → D' 24 i = if v ≤ (i : Int) then D 24 i + (if da_o (i : Int) (D 4 h.toNat) ≤ far then 1 else 0) else D 24 i := by
        intro x hx
        have bx : 0 ≤ x ∧ x ≤ D 24 v.toNat + 1 := by rw [hx]; split <;> omega
        obtain ⟨D', e1, e2, e3⟩ := ih (v + 1) (td_upd D 24 v.toNat x) (by omega) (by omega) (by omega) (by rw [tu_row (by decide)]; exact c1) (by rw [tu_row (by decide)]; exact c2) (fun i hi hv => by
          rw [tu_at, tu_ne (by omega)]
          exact hb i hi (by omega))
        refine ⟨D', e1, fun y hy => (e2 y hy).trans (tu_row hy), fun i hi => ?_⟩
        rw [e3 i hi, tu_at, tu_row (show 4 ≠ 24 by decide)]
        unfold tv_up
        by_cases z : v + 1 ≤ (i : Int)
        · rw [if_pos z, if_pos (show v ≤ (i : Int) by omega), if_neg (show ¬ i = v.toNat by omega)]
        · rw [if_neg z]
          by_cases z2 : i = v.toNat
          · rw [if_pos z2, if_pos (show v ≤ (i : Int) by omega), hx, z2, show ((v.toNat : Nat) : Int) = v by omega]
          · rw [if_neg z2, if_neg (show ¬ v ≤ (i : Int) by omega)]
      by_cases d : far < da_o v (D 4 h.toNat)
      · rw [if_pos d, td_ls]
        exact go _ (by rw [if_neg (by omega)])
      · rw [if_neg d, td_ls]
        exact go _ (by rw [if_pos (by omega)])
theorem fe_look_23 {Dc : td_D} (h1 : 0 ≤ Dc 2 1) (h2 : Dc 2 1 ≤ 5) (r1 : 1 ≤ Dc 2 10) (hf : ∀ i : Nat, i < 30 → 0 ≤ Dc 6 i ∧ Dc 6 i ≤ 99) (hc : ∀ i : Nat, i < 5 → 0 ≤ Dc 4 i ∧ Dc 4 i ≤ 99) : ∀ (m n : Nat) (D : td_D), (n : Int) ≤ Dc 2 1 → 5 - n < m → (∀ x : Nat, x ≠ 24 → D x = Dc x) → (∀ i : Nat, i < 100 → D 24 i = ((bn_o (Dc 6) (Dc 4) (Dc 2 10) (i : Int) n : Nat) : Int)) → ∃ D' : td_D, F_X10_look_23 m (n : Int) D = some (0, D') ∧ (∀ x : Nat, x ≠ 24 → D' x = Dc x) ∧ ∀ i : Nat, i < 100 → D' 24 i = wi_o Dc i := by
  intro m
  induction m with
  | zero => intro n D q1 q2; omega
  | succ m ih =>
    intro n D q1 q2 fD hD
    have d2 : D 2 = Dc 2 := fD 2 (by decide)
    have d4 : D 4 = Dc 4 := fD 4 (by decide)
    have d6 : D 6 = Dc 6 := fD 6 (by decide)
    unfold F_X10_look_23
    rw [d2]
    by_cases c : Dc 2 1 ≤ (n : Int)
    · rw [if_pos c]
      refine ⟨D, rfl, fD, fun i hi => ?_⟩
      rw [hD i hi]
      unfold wi_o
      rw [show (Dc 2 1).toNat = n by omega]
    · have A := fe_allIn (q := 5) (h := (n : Int)) (D := D) (by rw [tr_5, d6]; exact hf) (by omega) (by omega)
      rw [tr_5, d6] at A
      have ab := al_b hf (h := (n : Int)) (by omega) (by omega)
      have bc := hc n (by omega)
      rw [if_neg c, A, td_bs, fe_farOf ab.1 (by omega) (by rw [d2]; exact r1), td_bs, d2]
      obtain ⟨D1, e1, e2, e3⟩ := fe_look_47 (h := (n : Int)) (far := fo_o (al_o (Dc 6) (n : Int)) (Dc 2 10)) (fun v2 D => F_X10_look_23 m v2 D) (by omega) (by omega) tf_N 0 D (by omega) (by omega) (by unfold tf_N; omega) (by rw [d4, Int.toNat_natCast]; exact bc.1) (by rw [d4, Int.toNat_natCast]; exact bc.2) (fun i hi _ => by
        rw [hD i hi]
        have := @bn_l (Dc 6) (Dc 4) (Dc 2 10) (i : Int) n
        omega)
      rw [e1, show (n : Int) + 1 = ((n + 1 : Nat) : Int) by omega]
      refine ih (n + 1) D1 (by omega) (by omega) (fun x hx => (e2 x hx).trans (fD x hx)) (fun i hi => ?_)
      rw [e3 i hi, if_pos (by omega), hD i hi, d4, Int.toNat_natCast]
      show _ = ((bn_o (Dc 6) (Dc 4) (Dc 2 10) (i : Int) n + (if ds_o (Dc 6) (Dc 4) (Dc 2 10) (i : Int) n then 1 else 0) : Nat) : Int)
      by_cases z : da_o (i : Int) (Dc 4 n) ≤ fo_o (al_o (Dc 6) (n : Int)) (Dc 2 10)
      · rw [if_pos z, if_pos (show ds_o (Dc 6) (Dc 4) (Dc 2 10) (i : Int) n = true from decide_eq_true z)]
        omega
      · rw [if_neg z, if_neg (show ¬ ds_o (Dc 6) (Dc 4) (Dc 2 10) (i : Int) n = true from fun w => z (of_decide_eq_true w))]
        omega
theorem fe_look_2 {Dc : td_D} : ∀ (m : Nat) (v : Int) (D : td_D), 0 ≤ v → v ≤ 100 → 100 - v < m → F_X10_look_2 m v D = F_X10_look_23 tf_N 0 (zr_o D 24 v 100) := by
  intro m
  induction m with
  | zero => intro v D q1 q2 q3; omega
  | succ m ih =>
    intro v D q1 q2 q3
    unfold F_X10_look_2
    by_cases c : 100 ≤ v
    · rw [if_pos c, zr_end c]
    · rw [if_neg c, if_pos (by omega), td_ls, tw_s (a := v + 1) (by omega) (by omega), ih _ _ (by omega) (by omega) (by omega), zr_step q1 (by omega)]
theorem fm_fs21 {v : Int} (kk : Int → td_D → Option (Int × td_D)) (v1 : 0 ≤ v) (v2 : v < 100) : ∀ (m b : Nat) (E : td_D), b < 32 → pc_o b < m → 0 ≤ E 26 v.toNat → E 26 v.toNat + ((pc_o b : Nat) : Int) ≤ 1000 → ∃ E' : td_D, F_X12_findStings_21 kk m v (b : Int) E = kk (v + 1) E' ∧ (∀ x : Nat, x ≠ 26 → E' x = E x) ∧ ∀ i : Nat, E' 26 i = if i = v.toNat then E 26 i + ((pc_o b : Nat) : Int) else E 26 i := by
  intro m
  induction m with
  | zero => intro b E h1 h2; omega
  | succ m ih =>
    intro b E h1 h2 e1 e2
    unfold F_X12_findStings_21
    by_cases c : b = 0
    · subst c
      rw [if_pos (by rfl), tw_s (a := v + 1) (by omega) (by omega)]
      refine ⟨E, rfl, fun _ _ => rfl, fun i => ?_⟩
      rw [show pc_o 0 = 0 from by decide]
      split <;> omega
    · obtain ⟨w, w1, w2⟩ := bl_32 ⟨b, h1⟩ c
      have w1' : tv_and (b : Int) (tv_w ((b : Int) - 1)) = ((w : Nat) : Int) := w1
      have w2' : pc_o (w : Nat) + 1 = pc_o b := w2
      have p5 := pc_5 ⟨b, h1⟩
      rw [if_neg (by omega), if_pos (by omega), td_ls, w1', tw_s (a := E 26 v.toNat + 1) (by omega) (by omega)]
      obtain ⟨E', g1, g2, g3⟩ := ih w (td_upd E 26 v.toNat (E 26 v.toNat + 1)) w.2 (by omega) (by rw [tu_at, tu_same]; omega) (by rw [tu_at, tu_same]; omega)
      refine ⟨E', g1, fun x hx => (g2 x hx).trans (tu_row hx), fun i => ?_⟩
      rw [g3 i, tu_at]
      unfold tv_up
      by_cases z : i = v.toNat
      · rw [if_pos z, if_pos z, if_pos z, z]
        omega
      · rw [if_neg z, if_neg z, if_neg z]
theorem fm_fs2 {Dc Dm : td_D} (hR : lw_R Dc Dm) : ∀ (m : Nat) (v : Int) (E : td_D), 0 ≤ v → v ≤ 100 → 100 - v < m → (∀ x : Nat, x ≠ 26 → E x = cp_o Dm 4 21 0 30 x) → (∀ i : Nat, (i : Int) < v → E 26 i = wi_o Dc i) → ∃ E' : td_D, F_X12_findStings_2 m v E = some (0, E') ∧ (∀ x : Nat, x ≠ 26 → E' x = cp_o Dm 4 21 0 30 x) ∧ ∀ i : Nat, i < 100 → E' 26 i = wi_o Dc i := by
  obtain ⟨⟨⟨l1, l1a, l1b⟩, ⟨l2, l2a, l2b⟩, ⟨l3, l3a, l3b⟩, lon, lce, lsh, lz, -⟩, ⟨-, ⟨s2, s2a, s2b⟩, -⟩, -⟩ := id hR
  intro m
  induction m with
  | zero => intro v E q1 q2 q3; omega
  | succ m ih =>
    intro v E q1 q2 q3 fE hE
    unfold F_X12_findStings_2
    by_cases c : 100 ≤ v
    · rw [if_pos c]
      exact ⟨E, rfl, fE, fun i hi => hE i (by omega)⟩
    · have e1 : ∀ x : Nat, x ≠ 26 → td_upd E 26 v.toNat 0 x = cp_o Dm 4 21 0 30 x := fun x hx => (tu_row hx).trans (fE x hx)
      have S := fm_sting (xy := v) (pe := Dc 2 0) (hi := Dc 2 1) (re := Dc 2 10) (f := Dc 6) (ce := Dc 4) (D := td_upd E 26 v.toNat 0) (by rw [e1 21 (by decide)]; exact th_now hR) (by rw [e1 1 (by decide), cp_row (by decide)]; exact l1) l1a l1b (by rw [e1 1 (by decide), cp_row (by decide)]; exact l2) (by rw [e1 3 (by decide), cp_row (by decide)]; exact lce) l2a l2b (by rw [e1 8 (by decide), cp_row (by decide)]; exact s2) s2a q1 (by omega)
      have b32 : bi_o (Dc 6) (Dc 4) (Dc 2 10) v (Dc 2 1).toNat < 32 := by
        have b := @bi_b (Dc 6) (Dc 4) (Dc 2 10) v (Dc 2 1).toNat
        have b2 : 2 ^ (Dc 2 1).toNat ≤ 2 ^ 5 := Nat.pow_le_pow_right (by omega) (by omega)
        omega
      have pc := @bi_pc (Dc 6) (Dc 4) (Dc 2 10) v (Dc 2 1).toNat (by omega)
      have p5 := pc_5 ⟨_, b32⟩
      simp only at p5
      rw [if_neg c, if_pos (by omega), td_ls, S, td_bs]
      obtain ⟨E1, g1, g2, g3⟩ := fm_fs21 (fun v1 D => F_X12_findStings_2 m v1 D) q1 (show v < 100 by omega) tf_N _ (td_upd E 26 v.toNat 0) b32 (by unfold tf_N; omega) (by rw [tu_at, tu_same]; omega) (by rw [tu_at, tu_same]; omega)
      rw [g1]
      refine ih (v + 1) E1 (by omega) (by omega) (by omega) (fun x hx => (g2 x hx).trans (e1 x hx)) (fun i hi => ?_)
      rw [g3 i, tu_at]
      by_cases z : i = v.toNat
      · rw [if_pos z, z, tu_same, pc]
        unfold wi_o
        rw [show ((v.toNat : Nat) : Int) = v by omega]
        omega
      · rw [if_neg z, tu_ne z]
        exact hE i (by omega)
theorem wi_b (Dc : td_D) (h : Dc 2 1 ≤ 5) (c : Nat) : 0 ≤ wi_o Dc c ∧ wi_o Dc c ≤ 5 := by
  unfold wi_o
  have b := @bn_l (Dc 6) (Dc 4) (Dc 2 10) (c : Int) (Dc 2 1).toNat
  omega
/-- the cells' stings, on both sides -/
theorem lk_look {Dc Dm : td_D} (hR : lw_R Dc Dm) : ∃ D' E' : td_D, F_X10_look Dc = some (0, D') ∧ F_X12_findStings (cp_o Dm 4 21 0 30) = some (0, E') ∧ (∀ x : Nat, x ≠ 24 → D' x = Dc x) ∧ (∀ i : Nat, i < 100 → D' 24 i = wi_o Dc i) ∧ (∀ x : Nat, x ≠ 26 → x ≠ 21 → E' x = Dm x) ∧ ∀ i : Nat, i < 100 → E' 26 i = wi_o Dc i := by
  obtain ⟨⟨⟨l1, l1a, l1b⟩, ⟨l2, l2a, l2b⟩, ⟨l3, l3a, l3b⟩, lon, lce, lsh, lz, -⟩, ⟨-, ⟨s2, s2a, s2b⟩, -⟩, -⟩ := id hR
  obtain ⟨D', a1, a2, a3⟩ := fe_look_23 l2a l2b s2a (fun i hi => (lsh i hi).2) (fun i hi => (lce i hi).2) tf_N 0 (zr_o Dc 24 0 100) (by omega) (by unfold tf_N; omega) (fun x hx => zr_row hx) (fun i hi => by
    rw [zr_at, if_pos (by omega)]
    rfl)
  obtain ⟨E', b1, b2, b3⟩ := fm_fs2 hR tf_N 0 (cp_o Dm 4 21 0 30) (by omega) (by omega) (by unfold tf_N; omega) (fun _ _ => rfl) (fun i hi => by omega)
  refine ⟨D', E', ?_, ?_, a2, a3, fun x x1 x2 => (b2 x x1).trans (cp_row x2), b3⟩
  · unfold F_X10_look
    rw [fe_look_2 (Dc := Dc) tf_N 0 Dc (by omega) (by omega) (by unfold tf_N; omega)]
    exact a1
  · unfold F_X12_findStings
    exact b1
