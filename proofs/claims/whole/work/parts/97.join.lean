theorem jw_keep {q l l' : Nat} {n : Int} {D E D1 E1 D2 E2 : td_D} (hi : ji_o q D E) (h : jk_o q D E D1 E1 l) (s : sg_o (D1 (q + 1)) (D1 (q + 2)) (D q 3).toNat (E1 14) (E1 15) (130 + (E 1 22).toNat) l n) (h' : jk_o q D1 E1 D2 E2 l') : sg_o (D2 (q + 1)) (D2 (q + 2)) (D q 3).toNat (E2 14) (E2 15) (130 + (E 1 22).toNat) l n := by
  obtain ⟨-, -, ⟨i8, i9⟩, -⟩ := hi
  obtain ⟨-, -, -, a4, a5, a6, -, -⟩ := h
  obtain ⟨-, -, -, -, -, -, b7, b8⟩ := h'
  exact sg_c s (fun k hk => b7 _ (by omega)) (fun k hk => b8 _ (by omega))
theorem jw_op {q l : Nat} {v : Int} {D E D1 E1 : td_D} (h : jw_o q D E D1 E1 l) : jw_o q D E D1 (td_upd E1 1 21 v) l := by
  obtain ⟨h1, h2, h3⟩ := h
  refine ⟨jk_op h1, h2, ?_⟩
  rw [tu_row (show (14 : Nat) ≠ 1 by decide), tu_row (show (15 : Nat) ≠ 1 by decide)]
  exact h3
/-- one step -/
theorem jw_1 {q : Nat} {c v c' v' : Int} {D E D1 E1 : td_D} (hq : q = 12 ∨ q = 16) (hi : ji_o q D E) (h : jk_o q D E D1 E1 0) (h1 : D 10 2 + 1 ≤ D1 10 2) (h2 : D1 q 3 < 128) (hp : p_step c v c' v') (hc : c' ≤ 2) : jw_o q D E (ad_o q c v D1) (am_o c' v' E1) 1 := by
  obtain ⟨k, -, s1, s2, s3, s4⟩ := jk_ad (c := c) (v := v) (c' := c') (v' := v') hq h h2
  obtain ⟨-, -, ⟨i8, i9⟩, -⟩ := hi
  obtain ⟨-, -, -, a4, a5, a6, -, -⟩ := h
  have e1 : (D1 q 3).toNat = (D q 3).toNat := by omega
  have e2 : (E1 1 22).toNat = (E 1 22).toNat := by omega
  rw [e1] at s1 s2
  rw [e2] at s3 s4
  refine ⟨k, ?_, ?_⟩
  · rw [(ad_10 hq).1]
    omega
  · exact sg_1 (by rw [s1, s2, s3, s4]; exact hp) (by rw [s3]; exact hc)
/-- a step on one value -/
theorem jw_u {q l : Nat} {c c' : Int} {D E D2 E2 D3 E3 : td_D} (hq : q = 12 ∨ q = 16) (hi : ji_o q D E) (h : jk_o q D E D2 E2 0) (h1 : D 10 2 + 1 ≤ D2 10 2) (h3 : jw_o q D2 E2 D3 E3 l) (h2 : D3 q 3 < 128) (hp : p_step c 0 c' 0) (hc : c' = 3 ∨ c' = 4) : jw_o q D E (ad_o q c 0 D3) (am_o c' 0 E3) (l + 1) := by
  obtain ⟨h3, hl, hs⟩ := h3
  have h4 := jk_t h h3
  obtain ⟨k, ⟨m1, m2⟩, s1, s2, s3, s4⟩ := jk_ad (c := c) (v := 0) (c' := c') (v' := 0) hq h4 h2
  obtain ⟨-, -, ⟨i8, i9⟩, -⟩ := hi
  obtain ⟨-, -, -, a4, a5, a6, -, -⟩ := h
  obtain ⟨-, -, -, b4, b5, b6, -, -⟩ := h3
  have e1 : (D3 q 3).toNat = (D q 3).toNat + l := by omega
  have e2 : 130 + (E3 1 22).toNat = 130 + (E 1 22).toNat + l := by omega
  have e3 : (D2 q 3).toNat = (D q 3).toNat := by omega
  have e4 : (E2 1 22).toNat = (E 1 22).toNat := by omega
  rw [e1] at s1 s2
  rw [e2] at s3 s4
  rw [e3, e4] at hs
  rw [show 0 + l + 1 = l + 1 by omega] at k
  refine ⟨k, ?_, ?_⟩
  · rw [(ad_10 hq).1]
    omega
  · exact sg_u (sg_c hs (fun k hk => m1 _ (by omega)) (fun k hk => m2 _ (by omega))) (by rw [s1, s2, s3, s4]; exact hp) (by rw [s3]; exact hc)
/-- a step on two values -/
theorem jw_b {q j l : Nat} {c c' : Int} {D E D1 E1 D2 E2 D3 E3 : td_D} (hq : q = 12 ∨ q = 16) (hi : ji_o q D E) (h : jw_o q D E D1 E1 j) (h' : jk_o q D1 E1 D2 E2 0) (h1 : D1 10 2 + 1 ≤ D2 10 2) (h3 : jw_o q D2 E2 D3 E3 l) (h2 : D3 q 3 < 128) (hp : p_step c 0 c' 0) (hc : 5 ≤ c') : jw_o q D E (ad_o q c 0 D3) (am_o c' 0 E3) (j + l + 1) := by
  obtain ⟨h, hj, hs0⟩ := h
  obtain ⟨h3, hl, hs⟩ := h3
  have h5 := jk_t h' h3
  have h4 := jk_t h h5
  have hs1 := jw_keep hi h hs0 h5
  obtain ⟨k, ⟨m1, m2⟩, s1, s2, s3, s4⟩ := jk_ad (c := c) (v := 0) (c' := c') (v' := 0) hq h4 h2
  obtain ⟨-, -, ⟨i8, i9⟩, -⟩ := hi
  obtain ⟨-, -, -, a4, a5, a6, -, -⟩ := h
  obtain ⟨-, -, -, d4, d5, d6, -, -⟩ := h'
  obtain ⟨-, -, -, b4, b5, b6, -, -⟩ := h3
  have e1 : (D3 q 3).toNat = (D q 3).toNat + (j + l) := by omega
  have e2 : 130 + (E3 1 22).toNat = 130 + (E 1 22).toNat + (j + l) := by omega
  have e3 : (D2 q 3).toNat = (D q 3).toNat + j := by omega
  have e4 : 130 + (E2 1 22).toNat = 130 + (E 1 22).toNat + j := by omega
  rw [e1] at s1 s2
  rw [e2] at s3 s4
  rw [e3, e4] at hs
  rw [show j + (0 + l) + 1 = j + l + 1 by omega] at k
  refine ⟨k, ?_, ?_⟩
  · rw [(ad_10 hq).1]
    omega
  · exact sg_b (sg_c hs1 (fun k hk => m1 _ (by omega)) (fun k hk => m2 _ (by omega))) (sg_c hs (fun k hk => m1 _ (by omega)) (fun k hk => m2 _ (by omega))) (by rw [s1, s2, s3, s4]; exact hp) (by rw [s3]; exact hc)
/-- a fault further on -/
theorem jb_pre {q l : Nat} {D E D1 E1 D2 E2 : td_D} (hq : q = 12 ∨ q = 16) (h : jk_o q D E D1 E1 l) (hl : (l : Int) ≤ D1 10 2 - D 10 2) (hb : jb_o q D1 E1 D2 E2) : jb_o q D E D2 E2 := by
  obtain ⟨-, f, g, a4, a5, a6, -, -⟩ := h
  obtain ⟨f', g', b1, b2, b3, b4, b5, b6, b7, b8⟩ := hb
  have n := f.2.1 1 (by decide) (by decide)
  have t := f.1 11 (by decide) (by omega) (by omega) (by omega)
  rw [n] at b2 b5
  rw [t] at b5
  exact ⟨jf_t f f', jg_t g g', by omega, b2, b3, b4, b5, b6, b7, by clear b5; omega⟩
theorem jb_ad {q l : Nat} {c v c' v' : Int} {D E D2 E2 D3 E3 : td_D} (hq : q = 12 ∨ q = 16) (h : jk_o q D E D2 E2 l) (hl : (l : Int) + 1 ≤ D2 10 2 - D 10 2) (hb : jb_o q D2 E2 D3 E3) : jb_o q D E (ad_o q c v D3) (am_o c' v' E3) := by
  obtain ⟨-, f, g, a4, a5, a6, -, -⟩ := h
  obtain ⟨f', g', b1, b2, b3, b4, b5, b6, b7, b8⟩ := hb
  have n := f.2.1 1 (by decide) (by decide)
  have t := f.1 11 (by decide) (by omega) (by omega) (by omega)
  rw [n] at b2 b5
  rw [t] at b5
  obtain ⟨z1, z2⟩ := @ad_10 q c v D3 hq
  obtain ⟨y1, y2, y3⟩ := @am_at c' v' E3
  refine ⟨jf_t f (jf_t f' (jf_ad hq)), jg_t g (jg_t g' jg_am), ?_, ?_, ?_, ?_, ?_, ad_n b6, ?_, ?_⟩
  · rw [z1]; omega
  · rw [z1]; exact b2
  · rw [z1, y3, tu_ne (by decide)]; exact b3
  · rw [z1, y3, tu_ne (by decide)]; exact b4
  · rw [z1]; exact b5
  · rw [y3, tu_same]; omega
  · rw [z1, y3, tu_same]; clear b5; omega
theorem jb_op {q : Nat} {v : Int} {D E D1 E1 : td_D} (hb : jb_o q D E D1 E1) : jb_o q D E D1 (td_upd E1 1 21 v) := by
  obtain ⟨f', g', b1, b2, b3, b4, b5, b6, b7, b8⟩ := hb
  have e : ∀ j : Nat, j ≠ 21 → td_upd E1 1 21 v 1 j = E1 1 j := fun j hj => by rw [tu_at, tu_ne hj]
  refine ⟨f', jg_t g' (jg_u (Or.inr (Or.inr (Or.inl rfl)))), b1, b2, ?_, ?_, b5, b6, ?_, ?_⟩
  · rw [e 19 (by decide)]; exact b3
  · rw [e 20 (by decide)]; exact b4
  · rw [e 22 (by decide)]; exact b7
  · rw [e 22 (by decide)]; exact b8
/-- a fault here -/
theorem jb_0 {q : Nat} {D E : td_D} (hq : q = 12 ∨ q = 16) (h : ji_o q D E) : jb_o q D E (td_upd D 10 3 1) (td_upd E 1 20 (E 1 19)) := by
  obtain ⟨⟨i1, i2, i3, i4⟩, ⟨i5, i6, i7⟩, ⟨i8, i9⟩, i10⟩ := h
  have e : ∀ j : Nat, j ≠ 20 → td_upd E 1 20 (E 1 19) 1 j = E 1 j := fun j hj => by rw [tu_at, tu_ne hj]
  have e2 : ∀ j : Nat, j ≠ 3 → td_upd D 10 3 1 10 j = D 10 j := fun j hj => by rw [tu_at, tu_ne hj]
  refine ⟨jf_u hq (Or.inr rfl), jg_u (Or.inr (Or.inl rfl)), ?_, ?_, ?_, ?_, Or.inl ?_, ?_, ?_, ?_⟩
  · rw [e2 2 (by decide)]; exact Int.le_refl _
  · rw [e2 2 (by decide)]; exact i2
  · rw [e2 2 (by decide), e 19 (by decide)]; exact i6
  · rw [e2 2 (by decide), tu_at, tu_same]; exact i6
  · rw [tu_at, tu_same]
  · rw [tu_row (by omega)]; exact i8
  · rw [e 22 (by decide)]; exact i9
  · rw [e2 2 (by decide), e 22 (by decide)]; omega
/-- the sign that both see -/
theorem jc_sign {q : Nat} {D E : td_D} (h : ji_o q D E) : ∃ c c' : Int, F_X9_sign D = some (c, D) ∧ F_X12_look E = some (c', E) ∧ cr_o c c' ∧ ((c = -1 ∧ D 10 2 = D 10 1) ∨ (D 10 2 < D 10 1 ∧ c = D 11 (D 10 2).toNat ∧ 0 ≤ c)) := by
  obtain ⟨⟨i1, i2, i3, i4⟩, ⟨i5, i6, i7⟩, ⟨i8, i9⟩, i10⟩ := h
  unfold F_X9_sign F_X12_look
  rw [i5, i6]
  by_cases z : D 10 1 ≤ D 10 2
  · rw [if_pos z, if_pos z]
    exact ⟨-1, -1, rfl, rfl, Or.inl ⟨rfl, by decide, by decide⟩, Or.inl ⟨rfl, by omega⟩⟩
  · have p : 0 ≤ D 10 2 ∧ D 10 2 < ((120 : Nat) : Int) := by omega
    have t := i10 (D 10 2).toNat (by omega)
    rw [if_neg z, if_neg z, if_pos p, if_pos p]
    refine ⟨_, _, rfl, rfl, ?_, Or.inr ⟨by omega, rfl, t.2.1⟩⟩
    rw [t.1]
    unfold cr_o tv_i2b
    omega
theorem fm_sees {E : td_D} (h : 0 ≤ E 1 19) (h2 : E 1 18 ≤ 120) : ∃ c : Int, F_X12_look E = some (c, E) := by
  unfold F_X12_look
  by_cases z : E 1 18 ≤ E 1 19
  · rw [if_pos z]; exact ⟨_, rfl⟩
  · rw [if_neg z, if_pos (show 0 ≤ E 1 19 ∧ E 1 19 < ((120 : Nat) : Int) by omega)]; exact ⟨_, rfl⟩
/-- a fault stays -/
theorem fm_wrong0 {E : td_D} (h : 0 ≤ E 1 20) : F_X12_wrong E = some (0, E) := by
  unfold F_X12_wrong
  rw [if_pos h]
theorem fm_wrong1 {E : td_D} (h : E 1 20 < 0) : F_X12_wrong E = some (0, td_upd E 1 20 (E 1 19)) := by
  unfold F_X12_wrong
  rw [if_neg (by omega)]
  exact tb_l
theorem jb_sign {q : Nat} {D E D1 E1 : td_D} (hq : q = 12 ∨ q = 16) (hn : D 10 1 ≤ 120) (h0 : 0 ≤ D 10 2) (h : jb_o q D E D1 E1) : D1 10 3 = 1 ∨ (D1 10 3 = 0 ∧ ∃ c : Int, F_X9_sign D1 = some (c, D1) ∧ 48 ≤ c ∧ c ≤ 57 ∧ D1 10 2 < D1 10 1) := by
  obtain ⟨f', g', b1, b2, b3, b4, b5, b6, b7, b8⟩ := h
  rcases b5 with b5 | ⟨b5, c1, c2, c3⟩
  · exact Or.inl b5
  · have n := f'.2.1 1 (by decide) (by decide)
    have t := f'.1 11 (by decide) (by omega) (by omega) (by omega)
    refine Or.inr ⟨b5, D 11 (D1 10 2).toNat, ?_, c2, c3, by omega⟩
    unfold F_X9_sign
    rw [n, t, if_neg (by omega), if_pos (show 0 ≤ D1 10 2 ∧ D1 10 2 < ((120 : Nat) : Int) by omega)]
