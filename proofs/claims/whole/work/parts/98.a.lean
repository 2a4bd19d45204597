theorem am_sw {c v x : Int} {E : td_D} : td_upd (am_o c v E) 1 19 x = am_o c v (td_upd E 1 19 x) := by
  have e : td_upd E 1 19 x 1 22 = E 1 22 := by rw [tu_at, tu_ne (by decide)]
  unfold am_o
  rw [e]
  funext r j
  unfold td_upd
  by_cases a : r = 1
  · subst a
    by_cases b : j = 19
    · subst b; rfl
    · by_cases b2 : j = 22
      · subst b2; rfl
      · simp [b, b2]
  · simp [a]
theorem jb_am {q : Nat} {c v : Int} {D E D1 E1 : td_D} (hb : jb_o q D E D1 E1) (h : E1 1 22 ≤ E 1 22 + (D1 10 2 - D 10 2)) : jb_o q D E D1 (am_o c v E1) := by
  obtain ⟨f', g', b1, b2, b3, b4, b5, b6, b7, b8⟩ := hb
  obtain ⟨y1, y2, y3⟩ := @am_at c v E1
  refine ⟨f', jg_t g' jg_am, b1, b2, ?_, ?_, b5, b6, ?_, ?_⟩
  · rw [y3, tu_ne (by decide)]; exact b3
  · rw [y3, tu_ne (by decide)]; exact b4
  · rw [y3, tu_same]; omega
  · rw [y3, tu_same]; clear b5; omega
theorem jb_w {q : Nat} {D E D1 E1 : td_D} (hq : q = 12 ∨ q = 16) (hb : jb_o q D E D1 E1) : jb_o q D E (td_upd D1 10 3 1) E1 := by
  obtain ⟨f', g', b1, b2, b3, b4, b5, b6, b7, b8⟩ := hb
  have e2 : ∀ j : Nat, j ≠ 3 → td_upd D1 10 3 1 10 j = D1 10 j := fun j hj => by rw [tu_at, tu_ne hj]
  refine ⟨jf_t f' (jf_u hq (Or.inr rfl)), g', ?_, ?_, ?_, ?_, Or.inl ?_, ?_, b7, ?_⟩
  · rw [e2 2 (by decide)]; exact b1
  · rw [e2 2 (by decide)]; exact b2
  · rw [e2 2 (by decide)]; exact b3
  · rw [e2 2 (by decide)]; exact b4
  · rw [tu_at, tu_same]
  · rw [tu_row (by omega)]; exact b6
  · rw [e2 2 (by decide)]; exact b8
/-- a digit too many -/
theorem jb_dig {q : Nat} {c v c' v' : Int} {D E D1 E1 : td_D} (hq : q = 12 ∨ q = 16) (h : jk_o q D E D1 E1 0) (h1 : D1 10 2 < D1 10 1) (h2 : 48 ≤ D1 11 (D1 10 2).toNat) (h3 : D1 11 (D1 10 2).toNat ≤ 57) : jb_o q D E (ad_o q c v D1) (am_o c' v' (td_upd E1 1 20 (E1 1 19))) := by
  obtain ⟨⟨⟨i1, i2, i3, i4⟩, ⟨i5, i6, i7⟩, ⟨i8, i9⟩, i10⟩, f, g, a4, a5, a6, -, -⟩ := h
  have n := f.2.1 1 (by decide) (by decide)
  have t := f.1 11 (by decide) (by omega) (by omega) (by omega)
  have e : ∀ j : Nat, j ≠ 20 → td_upd E1 1 20 (E1 1 19) 1 j = E1 1 j := fun j hj => by rw [tu_at, tu_ne hj]
  have e20 : td_upd E1 1 20 (E1 1 19) 1 20 = E1 1 19 := by rw [tu_at, tu_same]
  obtain ⟨z1, z2⟩ := @ad_10 q c v D1 hq
  obtain ⟨y1, y2, y3⟩ := @am_at c' v' (td_upd E1 1 20 (E1 1 19))
  have e22 := e 22 (by decide)
  refine ⟨jf_t f (jf_ad hq), jg_t g (jg_t (jg_u (Or.inr (Or.inl rfl))) jg_am), ?_, ?_, ?_, ?_, Or.inr ?_, ad_n i8, ?_, ?_⟩
  · rw [z1]; exact a4
  · rw [z1]; omega
  · rw [z1, y3, tu_ne (by decide), e 19 (by decide)]; exact i6
  · rw [z1, y3, tu_ne (by decide), e20]; exact i6
  · rw [z1, ← n, ← t]; exact ⟨i4, h1, h2, h3⟩
  · rw [y3, tu_same, e22]; omega
  · rw [z1, y3, tu_same, e22]; omega
theorem jk_n {q l : Nat} {D E D1 E1 : td_D} (h : jk_o q D E D1 E1 l) : D1 10 1 = D 10 1 := h.2.1.2.1 1 (by decide) (by decide)
/-- a number -/
theorem j_num {q : Nat} {D E : td_D} (hq : q = 12 ∨ q = 16) (hi : ji_o q D E) (hs : D q 3 ≤ D 10 2) (hl : E 1 22 ≤ D 10 2) : ∀ (m k : Nat) (v : Int) (D1 E1 : td_D), k ≤ 4 → 4 - k < m → 0 ≤ v → ((k = 0 ∧ v = 0) ∨ (k = 1 ∧ v ≤ 9) ∨ (k = 2 ∧ v ≤ 99) ∨ (k = 3 ∧ v ≤ 999) ∨ (k = 4 ∧ v ≤ 9999)) → jk_o q D E D1 E1 0 → D1 10 2 = D 10 2 + (k : Int) → E1 1 21 = E 1 21 → (k = 0 → D1 10 2 < D1 10 1 ∧ 48 ≤ D1 11 (D1 10 2).toNat ∧ D1 11 (D1 10 2).toNat ≤ 57) → ∃ D' E' : td_D, F_X9_readNumber_4 m q v (k : Int) D1 = some (0, D') ∧ F_X12_figure_4 m v (k : Int) E1 = some (0, E') ∧ jq_o q D E D' E' := by
  intro m
  induction m with
  | zero => intro k v D1 E1 q1 q2; omega
  | succ m ih =>
    intro k v D1 E1 k1 k2 v0 vb hk ha ho h0
    have hik := hk.1
    have nn := jk_n hk
    obtain ⟨⟨i1, i2, i3, i4⟩, ⟨i5, i6, i7⟩, ⟨i8, i9⟩, i10⟩ := id hi
    obtain ⟨⟨j1, j2, j3, j4⟩, ⟨j5, j6, j7⟩, ⟨j8, j9⟩, j10⟩ := id hik
    have sz : D1 q 3 = D q 3 := by have := hk.2.2.2.2.1; omega
    have sl : E1 1 22 = E 1 22 := by have := hk.2.2.2.2.2.1; omega
    obtain ⟨c, c', s1, s2, s3, s4⟩ := jc_sign hik
    have f1 : ∀ F : td_D, F 1 22 = E1 1 22 → F_X12_addStep 1 v F = some (0, am_o 1 v F) := fun F hF => fm_lst (by omega) (by omega) (by omega) (by omega)
    have f2 : F_X1_add q 1 v D1 = some (0, ad_o q 1 v D1) := fe_lst hq j8
    unfold F_X9_readNumber_4 F_X12_figure_4 F_X12_figure_52
    simp only [f2, tb_s, s1, fe_isDigit, s2, fm_in57]
    by_cases dg : 48 ≤ c ∧ c ≤ 57
    · have cc : c' = c := by unfold cr_o at s3; omega
      subst cc
      rw [tf_t dg]
      by_cases k4 : 4 ≤ (k : Int)
      · rw [if_pos k4, if_pos k4, if_neg (show ¬ (k : Int) = 0 by omega), if_neg (show ¬ (1 : Int) = 0 by decide), fm_wrong1 (by omega), tb_s, f1 _ (by rw [tu_at, tu_ne (by decide)]), tb_s]
        refine ⟨_, _, rfl, rfl, Or.inr (jb_dig hq hk ?_ ?_ ?_)⟩
        · omega
        · omega
        · omega
      · rw [if_neg k4, if_neg k4, if_neg (show ¬ (1 : Int) = 0 by decide), if_neg (show ¬ (1 : Int) = 0 by decide), tb_l, tb_l, tw_s (a := D1 10 2 + 1) (by omega) (by omega), tw_s (a := E1 1 19 + 1) (by omega) (by omega), tw_s (a := (k : Int) + 1) (by omega) (by omega), show 10 * v = v * 10 by omega, tw_s (a := v * 10) (by omega) (by omega), tw_s (a := v * 10 + c') (by omega) (by omega), tw_s (a := v * 10 + c' - 48) (by omega) (by omega), show (k : Int) + 1 = ((k + 1 : Nat) : Int) by omega]
        refine ih (k + 1) _ _ _ (by omega) (by omega) (by omega) (by omega) (jk_go hq hk (by omega)) ?_ ?_ (fun z => by omega)
        · rw [tu_at, tu_same]; omega
        · rw [tu_at, tu_ne (by decide)]; exact ho
    · have nd : ¬ (48 ≤ c' ∧ c' ≤ 57) := by unfold cr_o at s3; omega
      rw [tf_f dg, tf_f nd]
      have k0 : k ≠ 0 := fun z => by
        have x := h0 z
        omega
      have fin : jq_o q D E (ad_o q 1 v D1) (am_o 1 v E1) := by
        refine Or.inl ⟨?_, 1, jw_1 hq hi hk (by omega) (by omega) ?_ (by decide)⟩
        · rw [(@am_at 1 v E1).2.2, tu_ne (by decide)]; exact ho
        · exact Or.inl ⟨rfl, rfl, rfl⟩
      by_cases k4 : 4 ≤ (k : Int)
      · rw [if_pos k4, if_pos k4, if_neg (show ¬ (k : Int) = 0 by omega), if_pos rfl, f1 _ rfl, tb_s]
        exact ⟨_, _, rfl, rfl, fin⟩
      · rw [if_neg k4, if_neg k4, if_pos rfl, if_pos rfl, if_neg (show ¬ (k : Int) = 0 by omega), if_pos rfl, f1 _ rfl, tb_s]
        exact ⟨_, _, rfl, rfl, fin⟩
