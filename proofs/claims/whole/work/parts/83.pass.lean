/-- a day half passed: what one hive holds of the first p is what the model has beside -/
def hp_o (r : Nat) (f : Nat → Int) (h p : Int) (D E : td_D) : Prop := (∀ i : Nat, i < 30 → D r i = if 6 * h ≤ (i : Int) ∧ (i : Int) < 6 * h + p then E 22 (i - (6 * h).toNat) else f i) ∧ ∀ i : Nat, (i : Int) < p → 0 ≤ E 22 i ∧ E 22 i ≤ 99
/-- whether anything changed -/
def hf_o (f : Nat → Int) (h p c : Int) (E : td_D) : Prop := (c = 0 ∧ ∀ i : Nat, (i : Int) < p → E 22 i = f ((6 * h).toNat + i)) ∨ (c = 1 ∧ ∃ i : Nat, (i : Int) < p ∧ E 22 i ≠ f ((6 * h).toNat + i))
theorem lk_pass_1 {q r : Nat} {Dc Dm : td_D} {f g : Nat → Int} {h d : Int} (hqr : td_r g_c q 0 = r) (hr : r = 6 ∨ r = 22) (hR : lw_R Dc Dm) (ht : p_th (Dc 2 0) (Dc 2 1) f g) (h1 : 0 ≤ h) (h2 : h < 5) : ∀ (m : Nat) (c p : Int) (D E : td_D), 0 ≤ p → p ≤ Dc 2 0 → Dc 2 0 - p < m → dy_o Dc Dm D E → E 21 = g → hp_o r f h p D E → hf_o f h p c E → D 20 1 = al_o f h → D 20 2 = Dc 2 9 → D 20 3 = ho_o f h → D 20 4 = h → D 20 5 = d →
    ∃ (c' : Int) (D' E' : td_D), F_X11_passDay_55 m q h c p D = some (c', D') ∧ F_X12_goDay_2 m h d p E = F_X12_goDay_34 tf_N h 0 0 E' ∧ dy_o Dc Dm D' E' ∧ E' 21 = g ∧ hp_o r f h (Dc 2 0) D' E' ∧ hf_o f h (Dc 2 0) c' E' ∧ (∀ x : Nat, x ≠ r → x ≠ 15 → x ≠ 19 → x ≠ 20 → D' x = D x) ∧ ∀ x : Nat, x ≠ 19 → x ≠ 20 → x ≠ 22 → E' x = E x := by
  obtain ⟨⟨⟨l1, l1a, l1b⟩, ⟨l2, l2a, l2b⟩, ⟨l3, l3a, l3b⟩, lon, lce, lsh, lz, -⟩, ⟨⟨s1, s1a, s1b⟩, -⟩, -, hw, -⟩ := id hR
  intro m
  induction m with
  | zero => intro c p D E q1 q2 q3; omega
  | succ m ih =>
    intro c p D E q1 q2 q3 dy eg hp hf n1 n2 n3 n4 n5
    have d2 : D 2 = Dc 2 := dy.1 2 (by decide) (by decide) (by decide) (by decide) (by decide)
    have e1 : E 1 = Dm 1 := dy.2 1 (by decide) (by decide) (by decide) (by decide)
    have e8 : E 8 = Dm 8 := dy.2 8 (by decide) (by decide) (by decide) (by decide)
    have r20 : r ≠ 20 ∧ r ≠ 15 ∧ r ≠ 19 := by omega
    unfold F_X11_passDay_55 F_X12_goDay_2
    rw [d2, e1, l1]
    by_cases cc : Dc 2 0 ≤ p
    · have pe : p = Dc 2 0 := by omega
      subst pe
      rw [if_pos cc, if_pos cc, if_pos (by rcases hf with ⟨z, -⟩ | ⟨z, -⟩; exact Or.inl z; exact Or.inr z)]
      exact ⟨c, D, E, rfl, rfl, dy, eg, hp, hf, fun _ _ _ _ _ => rfl, fun _ _ _ _ => rfl⟩
    · have i30 : (6 * h + p).toNat < 30 := by omega
      have F := ht.1 (6 * h + p).toNat i30
      have Dr : D r (6 * h + p).toNat = f (6 * h + p).toNat := by
        rw [hp.1 _ i30, if_neg (by omega)]
      have ej : (6 * h + p).toNat = (6 * h).toNat + p.toNat := by omega
      have p6 : 0 ≤ p ∧ p < ((6 : Nat) : Int) := by omega
      rw [if_neg cc, if_neg cc, fe_share h1 h2 q1 (by omega), td_bs, hqr, Dr]
      have G0 : ∀ X : td_D, F_X12_growsTo h p d E = (if f (6 * h + p).toNat = 0 then some (0, E) else F_X12_growsTo_43 h d (f (6 * h + p).toNat) (if Dc 2 9 = 3 then f (6 * h + p).toNat else f (6 * h + p).toNat + f (6 * h + p).toNat / 10) E) := by
        intro _
        unfold F_X12_growsTo
        rw [tw_s (a := 6 * h) (by omega) (by omega), tw_s (a := 6 * h + p) (by omega) (by omega), if_pos (by omega), eg, F.1, e8]
        by_cases z : f (6 * h + p).toNat = 0
        · rw [if_pos z, if_pos z]
        · rw [if_neg z, if_neg z]
          show (if Dm 8 0 = 3 then _ else _) = _
          rw [s1, tv_dv (by omega) (by omega) (by omega), tw_s (a := f (6 * h + p).toNat + f (6 * h + p).toNat / 10) (by omega) (by omega)]
          by_cases y : Dc 2 9 = 3
          · rw [if_pos y, if_pos y]
          · rw [if_neg y, if_neg y]
      have next : ∀ (y : Int) (D1 E1 : td_D), 0 ≤ y → y ≤ 99 → (∀ x : Nat, x ≠ 15 → x ≠ 19 → x ≠ 20 → D1 x = D x) → (∀ i : Nat, i ≠ 0 → D1 20 i = D 20 i) → (∀ x : Nat, x ≠ 19 → x ≠ 20 → E1 x = E x) → ∃ (c' : Int) (D' E' : td_D), F_X11_passDay_91 (fun v1 v2 v4 v5 D => F_X11_passDay_55 m v1 v2 v4 v5 D) q h c p (f (6 * h + p).toNat) y D1 = some (c', D') ∧ F_X12_goDay_2 m h d (p + 1) (td_upd E1 22 p.toNat y) = F_X12_goDay_34 tf_N h 0 0 E' ∧ dy_o Dc Dm D' E' ∧ E' 21 = g ∧ hp_o r f h (Dc 2 0) D' E' ∧ hf_o f h (Dc 2 0) c' E' ∧ (∀ x : Nat, x ≠ r → x ≠ 15 → x ≠ 19 → x ≠ 20 → D' x = D x) ∧ ∀ x : Nat, x ≠ 19 → x ≠ 20 → x ≠ 22 → E' x = E x := by
        intro y D1 E1 y1 y2 fD fN fE
        unfold F_X11_passDay_91
        rw [tw_s (a := p + 1) (by omega) (by omega)]
        have D1r : D1 r = D r := fD r r20.2.1 r20.2.2 r20.1
        have E122 : E1 22 = E 22 := fE 22 (by decide) (by decide)
        have hp2 : ∀ D2 : td_D, (∀ i : Nat, i < 30 → D2 r i = if i = (6 * h + p).toNat then y else D r i) → hp_o r f h (p + 1) D2 (td_upd E1 22 p.toNat y) := by
          intro D2 hD2
          refine ⟨fun i hi => ?_, fun i hi => ?_⟩
          · rw [hD2 i hi, tu_at, E122]
            unfold tv_up
            by_cases z : i = (6 * h + p).toNat
            · rw [if_pos z, if_pos (show 6 * h ≤ (i : Int) ∧ (i : Int) < 6 * h + (p + 1) by omega), if_pos (show i - (6 * h).toNat = p.toNat by omega)]
            · rw [if_neg z, hp.1 i hi]
              by_cases w : 6 * h ≤ (i : Int) ∧ (i : Int) < 6 * h + p
              · rw [if_pos w, if_pos (show 6 * h ≤ (i : Int) ∧ (i : Int) < 6 * h + (p + 1) by omega), if_neg (by omega)]
              · rw [if_neg w, if_neg (by omega)]
          · rw [tu_at, E122]
            unfold tv_up
            by_cases z : i = p.toNat
            · rw [if_pos z]
              exact ⟨y1, y2⟩
            · rw [if_neg z]
              exact hp.2 i (by omega)
        have eE : ∀ x : Nat, x ≠ 19 → x ≠ 20 → x ≠ 22 → td_upd E1 22 p.toNat y x = E x := fun x x1 x2 x3 => by rw [tu_row x3]; exact fE x x1 x2
        have old : ∀ i : Nat, (i : Int) < p → td_upd E1 22 p.toNat y 22 i = E 22 i := fun i hi => by
          rw [tu_at, tu_ne (by omega), E122]
        have new : td_upd E1 22 p.toNat y 22 p.toNat = y := by rw [tu_at, tu_same]
        by_cases z : y = f (6 * h + p).toNat
        · rw [if_pos z]
          obtain ⟨c', D', E', a1, a2, a3, a4, a5, a6, a7, a8⟩ := ih c (p + 1) D1 (td_upd E1 22 p.toNat y) (by omega) (by omega) (by omega) ⟨fun x x1 x2 x3 x4 x5 => (fD x x2 x3 x4).trans (dy.1 x x1 x2 x3 x4 x5), fun x x1 x2 x3 x4 => (eE x x1 x2 x4).trans (dy.2 x x1 x2 x3 x4)⟩ ((eE 21 (by decide) (by decide) (by decide)).trans eg) (hp2 D1 (fun i hi => by
              rw [D1r]
              by_cases w : i = (6 * h + p).toNat
              · rw [if_pos w, w, Dr, z]
              · rw [if_neg w])) (by
              rcases hf with ⟨f1, f2⟩ | ⟨f1, i, f2, f3⟩
              · refine Or.inl ⟨f1, fun i hi => ?_⟩
                by_cases w : i = p.toNat
                · rw [w, new, z, ej]
                · rw [old i (by omega)]
                  exact f2 i (by omega)
              · exact Or.inr ⟨f1, i, by omega, by rw [old i f2]; exact f3⟩) (by rw [fN 1 (by decide)]; exact n1) (by rw [fN 2 (by decide)]; exact n2) (by rw [fN 3 (by decide)]; exact n3) (by rw [fN 4 (by decide)]; exact n4) (by rw [fN 5 (by decide)]; exact n5)
          exact ⟨c', D', E', a1, a2, a3, a4, a5, a6, fun x x1 x2 x3 x4 => (a7 x x1 x2 x3 x4).trans (fD x x2 x3 x4), fun x x1 x2 x3 => (a8 x x1 x2 x3).trans (eE x x1 x2 x3)⟩
        · rw [if_neg z, fe_lay h1 h2 q1 (by omega), td_bs, hqr]
          obtain ⟨c', D', E', a1, a2, a3, a4, a5, a6, a7, a8⟩ := ih 1 (p + 1) (td_upd D1 r (6 * h + p).toNat y) (td_upd E1 22 p.toNat y) (by omega) (by omega) (by omega) ⟨fun x x1 x2 x3 x4 x5 => by rw [tu_row (by omega)]; exact (fD x x2 x3 x4).trans (dy.1 x x1 x2 x3 x4 x5), fun x x1 x2 x3 x4 => (eE x x1 x2 x4).trans (dy.2 x x1 x2 x3 x4)⟩ ((eE 21 (by decide) (by decide) (by decide)).trans eg) (hp2 _ (fun i hi => by
              rw [tu_at, D1r]
              rfl)) (by
              refine Or.inr ⟨rfl, p.toNat, by omega, ?_⟩
              rw [new, ← ej]
              exact z) (by rw [tu_row r20.1.symm, fN 1 (by decide)]; exact n1) (by rw [tu_row r20.1.symm, fN 2 (by decide)]; exact n2) (by rw [tu_row r20.1.symm, fN 3 (by decide)]; exact n3) (by rw [tu_row r20.1.symm, fN 4 (by decide)]; exact n4) (by rw [tu_row r20.1.symm, fN 5 (by decide)]; exact n5)
          exact ⟨c', D', E', a1, a2, a3, a4, a5, a6, fun x x1 x2 x3 x4 => (a7 x x1 x2 x3 x4).trans ((tu_row x1).trans (fD x x2 x3 x4)), fun x x1 x2 x3 => (a8 x x1 x2 x3).trans (eE x x1 x2 x3)⟩
      rw [G0 D]
      by_cases z : f (6 * h + p).toNat = 0
      · rw [if_pos z, if_pos z, td_bs, if_pos p6, td_ls, tw_s (a := p + 1) (by omega) (by omega)]
        exact next 0 D E (by decide) (by decide) (fun _ _ _ _ => rfl) (fun _ _ => rfl) (fun _ _ _ => rfl)
      · rw [if_neg z, if_neg z]
        obtain ⟨y, D1, E1, g1, g2, g3, g4, g5, g6, g7⟩ := lk_grow (D := D) (E := E) (h := h) (d := d) (a := f (6 * h + p).toNat) hR dy (by rw [eg]; exact ht) h1 h2 (by omega) (by omega) rfl n1 n2 n3 n4 n5
        rw [g1, g2, td_bs, td_bs, if_pos p6, td_ls, tw_s (a := p + 1) (by omega) (by omega)]
        exact next y D1 E1 g3 g4 g5 g6 g7
theorem fm_pass_2 {h : Int} (h1 : 0 ≤ h) (h2 : h < 5) : ∀ (m : Nat) (c p : Int) (E : td_D), 0 ≤ p → p ≤ E 1 1 → E 1 1 ≤ 6 → E 1 1 - p < m → (c = 0 ∨ c = 1) → ∃ (c' : Int) (E' : td_D), F_X12_goDay_34 m h c p E = some (c', E') ∧ (∀ x : Nat, x ≠ 21 → E' x = E x) ∧ (∀ i : Nat, E' 21 i = if 6 * h + p ≤ (i : Int) ∧ (i : Int) < 6 * h + E 1 1 then E 22 (i - (6 * h).toNat) else E 21 i) ∧ ((c' = 0 ∧ c = 0 ∧ ∀ i : Nat, p ≤ (i : Int) → (i : Int) < E 1 1 → E 21 ((6 * h).toNat + i) = E 22 i) ∨ (c' = 1 ∧ (c = 1 ∨ ∃ i : Nat, p ≤ (i : Int) ∧ (i : Int) < E 1 1 ∧ E 21 ((6 * h).toNat + i) ≠ E 22 i))) := by
  intro m
  induction m with
  | zero => intro c p E q1 q2 q3; omega
  | succ m ih =>
    intro c p E q1 q2 q3 q4 hc
    unfold F_X12_goDay_34 F_X12_goDay_67
    by_cases cc : E 1 1 ≤ p
    · rw [if_pos cc, if_pos hc]
      refine ⟨c, E, rfl, fun _ _ => rfl, fun i => by rw [if_neg (by omega)], ?_⟩
      rcases hc with hc | hc
      · exact Or.inl ⟨hc, hc, fun i i1 i2 => by omega⟩
      · exact Or.inr ⟨hc, Or.inl hc⟩
    · have ej : (6 * h + p).toNat = (6 * h).toNat + p.toNat := by omega
      have p6 : 0 ≤ p ∧ p < ((6 : Nat) : Int) := by omega
      have p30 : 0 ≤ 6 * h + p ∧ 6 * h + p < ((30 : Nat) : Int) := by omega
      rw [if_neg cc, tw_s (a := 6 * h) (by omega) (by omega), tw_s (a := 6 * h + p) (by omega) (by omega)]
      simp only [if_pos p6, if_pos p30, tb_l]
      rw [tw_s (a := p + 1) (by omega) (by omega)]
      have eE : ∀ x : Nat, x ≠ 21 → td_upd E 21 (6 * h + p).toNat (E 22 p.toNat) x = E x := fun x hx => tu_row hx
      have go : ∀ c2 : Int, (c2 = 0 ∨ c2 = 1) → ((c2 = 0 ∧ c = 0 ∧ E 21 (6 * h + p).toNat = E 22 p.toNat) ∨ (c2 = 1 ∧ (c = 1 ∨ E 21 (6 * h + p).toNat ≠ E 22 p.toNat))) → ∃ (c' : Int) (E' : td_D), F_X12_goDay_34 m h c2 (p + 1) (td_upd E 21 (6 * h + p).toNat (E 22 p.toNat)) = some (c', E') ∧ (∀ x : Nat, x ≠ 21 → E' x = E x) ∧ (∀ i : Nat, E' 21 i = if 6 * h + p ≤ (i : Int) ∧ (i : Int) < 6 * h + E 1 1 then E 22 (i - (6 * h).toNat) else E 21 i) ∧ ((c' = 0 ∧ c = 0 ∧ ∀ i : Nat, p ≤ (i : Int) → (i : Int) < E 1 1 → E 21 ((6 * h).toNat + i) = E 22 i) ∨ (c' = 1 ∧ (c = 1 ∨ ∃ i : Nat, p ≤ (i : Int) ∧ (i : Int) < E 1 1 ∧ E 21 ((6 * h).toNat + i) ≠ E 22 i))) := by
        intro c2 hc2 hc3
        obtain ⟨c', E', a1, a2, a3, a4⟩ := ih c2 (p + 1) (td_upd E 21 (6 * h + p).toNat (E 22 p.toNat)) (by omega) (by rw [eE 1 (by decide)]; omega) (by rw [eE 1 (by decide)]; omega) (by rw [eE 1 (by decide)]; omega) hc2
        rw [eE 1 (by decide), eE 22 (by decide)] at a3 a4
        have oth : ∀ i : Nat, p + 1 ≤ (i : Int) → td_upd E 21 (6 * h + p).toNat (E 22 p.toNat) 21 ((6 * h).toNat + i) = E 21 ((6 * h).toNat + i) := fun i hi => by
          rw [tu_at, tu_ne (by omega)]
        refine ⟨c', E', a1, fun x hx => (a2 x hx).trans (eE x hx), fun i => ?_, ?_⟩
        · rw [a3 i, tu_at]
          unfold tv_up
          by_cases z : 6 * h + (p + 1) ≤ (i : Int) ∧ (i : Int) < 6 * h + E 1 1
          · have z2 : 6 * h + p ≤ (i : Int) ∧ (i : Int) < 6 * h + E 1 1 := by clear a4; omega
            simp only [if_pos z, if_pos z2]
          · by_cases z3 : i = (6 * h + p).toNat
            · have z2 : 6 * h + p ≤ (i : Int) ∧ (i : Int) < 6 * h + E 1 1 := by clear a4; omega
              simp only [if_neg z, if_pos z3]
              rw [if_pos (by clear a4; omega), show i - (6 * h).toNat = p.toNat by clear a4; omega]
            · have z2 : ¬ (6 * h + p ≤ (i : Int) ∧ (i : Int) < 6 * h + E 1 1) := by clear a4; omega
              simp only [if_neg z, if_neg z2, if_neg z3]
        · rcases a4 with ⟨b1, b2, b3⟩ | ⟨b1, b2⟩
          · rcases hc3 with ⟨k1, k2, k3⟩ | ⟨k1, k2⟩
            · refine Or.inl ⟨b1, k2, fun i i1 i2 => ?_⟩
              by_cases w : (i : Int) = p
              · rw [show i = p.toNat by omega, ← ej]
                exact k3
              · have b := b3 i (by omega) i2
                rw [oth i (by omega)] at b
                exact b
            · omega
          · refine Or.inr ⟨b1, ?_⟩
            rcases b2 with b2 | ⟨i, i1, i2, i3⟩
            · rcases hc3 with ⟨k1, k2, k3⟩ | ⟨k1, k2⟩
              · omega
              · rcases k2 with k2 | k2
                · exact Or.inl k2
                · exact Or.inr ⟨p.toNat, by omega, by omega, by rw [← ej]; exact k2⟩
            · rw [oth i i1] at i3
              exact Or.inr ⟨i, by omega, i2, i3⟩
      by_cases z : E 21 (6 * h + p).toNat = E 22 p.toNat
      · rw [if_pos z]
        refine go c hc ?_
        rcases hc with hc | hc
        · exact Or.inl ⟨hc, hc, z⟩
        · exact Or.inr ⟨hc, Or.inl hc⟩
      · rw [if_neg z]
        exact go 1 (Or.inr rfl) (Or.inr ⟨rfl, Or.inr z⟩)
/-- a day of one hive -/
theorem lk_day2 {q r : Nat} {Dc Dm D E : td_D} {h d : Int} (hqr : td_r g_c q 0 = r) (hr : r = 6 ∨ r = 22) (hR : lw_R Dc Dm) (dy : dy_o Dc Dm D E) (ht : p_th (Dc 2 0) (Dc 2 1) (D r) (E 21)) (h1 : 0 ≤ h) (h2 : h < Dc 2 1) : ∃ (c : Int) (D' E' : td_D), (∀ i : Nat, i < 30 → ¬ (6 * h ≤ (i : Int) ∧ (i : Int) < 6 * h + 6) → D' r i = D r i) ∧ F_X11_passDay q h d D = some (c, D') ∧ F_X12_goDay h d E = some (c, E') ∧ (c = 0 ∨ c = 1) ∧ dy_o Dc Dm D' E' ∧ p_th (Dc 2 0) (Dc 2 1) (D' r) (E' 21) ∧ (∀ x : Nat, x ≠ r → x ≠ 15 → x ≠ 19 → x ≠ 20 → D' x = D x) ∧ ∀ x : Nat, x ≠ 19 → x ≠ 20 → x ≠ 21 → x ≠ 22 → E' x = E x := by
  obtain ⟨⟨⟨l1, l1a, l1b⟩, ⟨l2, l2a, l2b⟩, -⟩, -⟩ := id hR
  have r20 : r ≠ 20 ∧ r ≠ 15 ∧ r ≠ 19 := by omega
  have hf : ∀ i : Nat, i < 30 → 0 ≤ D r i ∧ D r i ≤ 99 := fun i hi => (ht.1 i hi).2
  have A := fe_allIn (q := q) (h := h) (D := D) (by rw [hqr]; exact hf) h1 (by omega)
  rw [hqr] at A
  unfold F_X11_passDay F_X12_goDay
  rw [A, td_bs, td_ls, td_ls]
  have B := fun X : td_D => fe_hold_4 (D := X) hqr h1 (show h < 5 by omega) tf_N 0 (by omega) (by unfold tf_N; omega)
  have B2 : ∀ X : td_D, X r = D r → F_X7_holders q h X = some (ho_o (D r) h, X) := fun X hX => by
    unfold F_X7_holders
    have z := B X
    rw [hX] at z
    exact z
  rw [B2 _ (by rw [tu_row r20.1, tu_row r20.1]), td_bs, td_ls, td_ls, td_ls]
  have d29 : td_upd D 20 (Int.toNat 1) (al_o (D r) h) 2 9 = Dc 2 9 := by
    rw [tu_row (by decide), dy.1 2 (by decide) (by decide) (by decide) (by decide) (by decide)]
  rw [d29]
  generalize hX : td_upd (td_upd (td_upd (td_upd (td_upd D 20 (Int.toNat 1) (al_o (D r) h)) 20 (Int.toNat 2) (Dc 2 9)) 20 (Int.toNat 3) (ho_o (D r) h)) 20 (Int.toNat 4) h) 20 (Int.toNat 5) d = X
  have Xo : ∀ x : Nat, x ≠ 20 → X x = D x := fun x hx => by
    rw [← hX, tu_row hx, tu_row hx, tu_row hx, tu_row hx, tu_row hx]
  have X1 : X 20 1 = al_o (D r) h ∧ X 20 2 = Dc 2 9 ∧ X 20 3 = ho_o (D r) h ∧ X 20 4 = h ∧ X 20 5 = d := by
    rw [← hX]
    simp only [tu_at]
    exact ⟨rfl, rfl, rfl, rfl, rfl⟩
  obtain ⟨c, D1, E1, a1, a2, a3, a4, a5, a6, a7, a8⟩ := lk_pass_1 (f := D r) (g := E 21) (d := d) hqr hr hR ht h1 (show h < 5 by omega) tf_N 0 0 X E (by omega) l1a (by unfold tf_N; omega) ⟨fun x x1 x2 x3 x4 x5 => (Xo x x4).trans (dy.1 x x1 x2 x3 x4 x5), dy.2⟩ rfl ⟨fun i hi => by rw [Xo r r20.1, if_neg (by omega)], fun i hi => by omega⟩ (Or.inl ⟨rfl, fun i hi => by omega⟩) X1.1 X1.2.1 X1.2.2.1 X1.2.2.2.1 X1.2.2.2.2
  have e11 : E1 1 1 = Dc 2 0 := by
    rw [a3.2 1 (by decide) (by decide) (by decide) (by decide)]
    exact l1
  obtain ⟨c2, E2, b1, b2, b3, b4⟩ := fm_pass_2 h1 (show h < 5 by omega) tf_N 0 0 E1 (by omega) (by rw [e11]; exact l1a) (by rw [e11]; exact l1b) (by rw [e11]; unfold tf_N; omega) (Or.inl rfl)
  rw [e11] at b3 b4
  have cc : c = c2 := by
    rcases a6 with ⟨x1, x2⟩ | ⟨x1, i, x2, x3⟩
    · rcases b4 with ⟨y1, -, y2⟩ | ⟨y1, y2⟩
      · omega
      · rcases y2 with y2 | ⟨i, i1, i2, i3⟩
        · omega
        · rw [a4, (ht.1 _ (by omega)).1, x2 i i2] at i3
          exact (i3 rfl).elim
    · rcases b4 with ⟨y1, -, y2⟩ | ⟨y1, y2⟩
      · have z := y2 i (by omega) x2
        rw [a4, (ht.1 _ (by omega)).1] at z
        exact (x3 z.symm).elim
      · omega
  refine ⟨c, D1, E2, fun i hi hn => by rw [a5.1 i hi, if_neg (by omega)], a1, ?_, ?_, ⟨a3.1, fun x x1 x2 x3 x4 => (b2 x x3).trans (a3.2 x x1 x2 x3 x4)⟩, ⟨fun i hi => ?_, fun h' p' g1 g2 g3 => ?_⟩, fun x x1 x2 x3 x4 => (a7 x x1 x2 x3 x4).trans (Xo x x4), fun x x1 x2 x3 x4 => (b2 x x3).trans (a8 x x1 x2 x4)⟩
  · rw [a2, b1, cc]
  · rcases a6 with ⟨x1, -⟩ | ⟨x1, -⟩
    · exact Or.inl x1
    · exact Or.inr x1
  · rw [b3 i, a5.1 i hi, a4]
    by_cases z : 6 * h ≤ (i : Int) ∧ (i : Int) < 6 * h + Dc 2 0
    · rw [if_pos (show 6 * h + 0 ≤ (i : Int) ∧ (i : Int) < 6 * h + Dc 2 0 by omega), if_pos z]
      exact ⟨rfl, a5.2 _ (by omega)⟩
    · rw [if_neg (show ¬ (6 * h + 0 ≤ (i : Int) ∧ (i : Int) < 6 * h + Dc 2 0) by omega), if_neg z]
      exact ht.1 i hi
  · rw [a5.1 _ (by omega), if_neg (by omega)]
    exact ht.2 h' p' g1 g2 g3
theorem lk_day {q r : Nat} {Dc Dm D E : td_D} {h d : Int} (hqr : td_r g_c q 0 = r) (hr : r = 6 ∨ r = 22) (hR : lw_R Dc Dm) (dy : dy_o Dc Dm D E) (ht : p_th (Dc 2 0) (Dc 2 1) (D r) (E 21)) (h1 : 0 ≤ h) (h2 : h < Dc 2 1) : ∃ (c : Int) (D' E' : td_D), F_X11_passDay q h d D = some (c, D') ∧ F_X12_goDay h d E = some (c, E') ∧ (c = 0 ∨ c = 1) ∧ dy_o Dc Dm D' E' ∧ p_th (Dc 2 0) (Dc 2 1) (D' r) (E' 21) ∧ (∀ x : Nat, x ≠ r → x ≠ 15 → x ≠ 19 → x ≠ 20 → D' x = D x) ∧ ∀ x : Nat, x ≠ 19 → x ≠ 20 → x ≠ 21 → x ≠ 22 → E' x = E x := by
  obtain ⟨c, D', E', -, h⟩ := lk_day2 (d := d) hqr hr hR dy ht h1 h2
  exact ⟨c, D', E', h⟩
