/-- what reading changes -/
def jf_o (q : Nat) (D D' : td_D) : Prop := (∀ r : Nat, r ≠ 10 → r ≠ q → r ≠ q + 1 → r ≠ q + 2 → D' r = D r) ∧ (∀ j : Nat, j ≠ 2 → j ≠ 3 → D' 10 j = D 10 j) ∧ ∀ j : Nat, j ≠ 3 → D' q j = D q j
def jg_o (E E' : td_D) : Prop := (∀ r : Nat, r ≠ 1 → r ≠ 14 → r ≠ 15 → E' r = E r) ∧ (∀ j : Nat, j ≠ 19 → j ≠ 20 → j ≠ 21 → j ≠ 22 → E' 1 j = E 1 j) ∧ ∀ i : Nat, i < 130 → E' 14 i = E 14 i ∧ E' 15 i = E 15 i
theorem jf_0 {q : Nat} (D : td_D) : jf_o q D D := ⟨fun _ _ _ _ _ => rfl, fun _ _ _ => rfl, fun _ _ => rfl⟩
theorem jg_0 (E : td_D) : jg_o E E := ⟨fun _ _ _ _ => rfl, fun _ _ _ _ _ => rfl, fun _ _ => ⟨rfl, rfl⟩⟩
theorem jf_t {q : Nat} {A B C : td_D} (h : jf_o q A B) (h2 : jf_o q B C) : jf_o q A C := ⟨fun r a b c d => (h2.1 r a b c d).trans (h.1 r a b c d), fun j a b => (h2.2.1 j a b).trans (h.2.1 j a b), fun j a => (h2.2.2 j a).trans (h.2.2 j a)⟩
theorem jg_t {A B C : td_D} (h : jg_o A B) (h2 : jg_o B C) : jg_o A C := ⟨fun r a b c => (h2.1 r a b c).trans (h.1 r a b c), fun j a b c d => (h2.2.1 j a b c d).trans (h.2.1 j a b c d), fun i a => ⟨(h2.2.2 i a).1.trans (h.2.2 i a).1, (h2.2.2 i a).2.trans (h.2.2 i a).2⟩⟩
theorem jf_u {q j : Nat} {v : Int} {D : td_D} (hq : q = 12 ∨ q = 16) (h : j = 2 ∨ j = 3) : jf_o q D (td_upd D 10 j v) := by
  refine ⟨fun r a _ _ _ => tu_row a, fun i a b => ?_, fun i _ => ?_⟩
  · rw [tu_at, tu_ne (by omega)]
  · rw [tu_row (by omega)]
theorem jg_u {j : Nat} {v : Int} {E : td_D} (h : j = 19 ∨ j = 20 ∨ j = 21 ∨ j = 22) : jg_o E (td_upd E 1 j v) := by
  refine ⟨fun r a _ _ => tu_row a, fun i a b c d => ?_, fun i _ => ⟨?_, ?_⟩⟩
  · rw [tu_at, tu_ne (by omega)]
  · rw [tu_row (by decide)]
  · rw [tu_row (by decide)]
theorem ad_at {q : Nat} {c v : Int} {D : td_D} (h : 0 ≤ D q 3) (h2 : D q 3 < 128) : ad_o q c v D (q + 1) = tv_up (D (q + 1)) (D q 3).toNat c ∧ ad_o q c v D (q + 2) = tv_up (D (q + 2)) (D q 3).toNat v ∧ ad_o q c v D q 3 = D q 3 + 1 := by
  unfold ad_o
  rw [if_neg (by omega)]
  refine ⟨?_, ?_, ?_⟩
  · rw [tu_row (by omega), tu_row (by omega), tu_at]
  · rw [tu_row (by omega), tu_at, tu_row (by omega)]
  · rw [tu_at, tu_same]
theorem ad_n {q : Nat} {c v : Int} {D : td_D} (h : 0 ≤ D q 3) : 0 ≤ ad_o q c v D q 3 := by
  unfold ad_o
  split
  · exact h
  · rw [tu_at, tu_same]; omega
theorem jf_ad {q : Nat} {c v : Int} {D : td_D} (hq : q = 12 ∨ q = 16) : jf_o q D (ad_o q c v D) := by
  unfold ad_o
  split
  · exact jf_0 D
  · refine ⟨fun r a b c d => ?_, fun j a b => ?_, fun j a => ?_⟩
    · rw [tu_row b, tu_row d, tu_row c]
    · rw [tu_row (by omega), tu_row (by omega), tu_row (by omega)]
    · rw [tu_at, tu_ne a, tu_row (by omega), tu_row (by omega)]
theorem ad_10 {q : Nat} {c v : Int} {D : td_D} (hq : q = 12 ∨ q = 16) : ad_o q c v D 10 = D 10 ∧ ad_o q c v D 11 = D 11 := by
  unfold ad_o
  split
  · exact ⟨rfl, rfl⟩
  · exact ⟨by rw [tu_row (by omega), tu_row (by omega), tu_row (by omega)], by rw [tu_row (by omega), tu_row (by omega), tu_row (by omega)]⟩
theorem am_at {c v : Int} {E : td_D} : am_o c v E 14 = tv_up (E 14) (130 + (E 1 22).toNat) c ∧ am_o c v E 15 = tv_up (E 15) (130 + (E 1 22).toNat) v ∧ am_o c v E 1 = tv_up (E 1) 22 (E 1 22 + 1) := by
  unfold am_o
  refine ⟨?_, ?_, ?_⟩
  · rw [tu_row (by decide), tu_row (by decide), tu_at]
  · rw [tu_row (by decide), tu_at, tu_row (by decide)]
  · rw [tu_at, tu_row (by decide), tu_row (by decide)]
theorem jg_am {c v : Int} {E : td_D} : jg_o E (am_o c v E) := by
  obtain ⟨a1, a2, a3⟩ := @am_at c v E
  refine ⟨fun r a b d => ?_, fun j _ _ _ a => ?_, fun i h => ⟨?_, ?_⟩⟩
  · unfold am_o
    rw [tu_row a, tu_row d, tu_row b]
  · rw [a3, tu_ne a]
  · rw [a1, tu_ne (by omega)]
  · rw [a2, tu_ne (by omega)]
/-- no fault so far, and both as far -/
def ji_o (q : Nat) (D E : td_D) : Prop :=
  (0 ≤ D 10 2 ∧ D 10 2 ≤ D 10 1 ∧ D 10 1 ≤ 120 ∧ D 10 3 = 0) ∧ (E 1 18 = D 10 1 ∧ E 1 19 = D 10 2 ∧ E 1 20 = -1) ∧ (0 ≤ D q 3 ∧ 0 ≤ E 1 22) ∧
  ∀ i : Nat, (i : Int) < D 10 1 → E 13 i = tv_i2b (D 11 i) ∧ 0 ≤ D 11 i ∧ D 11 i ≤ 255
/-- from one such place to another -/
def jk_o (q : Nat) (D E D1 E1 : td_D) (len : Nat) : Prop :=
  ji_o q D1 E1 ∧ jf_o q D D1 ∧ jg_o E E1 ∧ D 10 2 ≤ D1 10 2 ∧ D1 q 3 = D q 3 + (len : Int) ∧ E1 1 22 = E 1 22 + (len : Int) ∧
  (∀ i : Nat, (i : Int) < D q 3 → D1 (q + 1) i = D (q + 1) i ∧ D1 (q + 2) i = D (q + 2) i) ∧ ∀ i : Nat, (i : Int) < 130 + E 1 22 → E1 14 i = E 14 i ∧ E1 15 i = E 15 i
/-- to a fault -/
def jb_o (q : Nat) (D E D1 E1 : td_D) : Prop :=
  jf_o q D D1 ∧ jg_o E E1 ∧ D 10 2 ≤ D1 10 2 ∧ D1 10 2 ≤ D 10 1 ∧ E1 1 19 = D1 10 2 ∧ E1 1 20 = D1 10 2 ∧ (D1 10 3 = 1 ∨ (D1 10 3 = 0 ∧ D1 10 2 < D 10 1 ∧ 48 ≤ D 11 (D1 10 2).toNat ∧ D 11 (D1 10 2).toNat ≤ 57)) ∧
  0 ≤ D1 q 3 ∧ 0 ≤ E1 1 22 ∧ E1 1 22 ≤ E 1 22 + (D1 10 2 - D 10 2) + 1
def jw_o (q : Nat) (D E D1 E1 : td_D) (len : Nat) : Prop := jk_o q D E D1 E1 len ∧ (len : Int) ≤ D1 10 2 - D 10 2 ∧ sg_o (D1 (q + 1)) (D1 (q + 2)) (D q 3).toNat (E1 14) (E1 15) (130 + (E 1 22).toNat) len 1
/-- a piece read -/
def jq_o (q : Nat) (D E D1 E1 : td_D) : Prop := (E1 1 21 = E 1 21 ∧ ∃ len : Nat, jw_o q D E D1 E1 len) ∨ jb_o q D E D1 E1
def jl_o (q : Nat) (o : Int) (f g : td_D → Option (Int × td_D)) : Prop := ∀ D E : td_D, ji_o q D E → D q 3 ≤ D 10 2 → E 1 22 ≤ D 10 2 → E 1 21 = o → ∃ (r r' : Int) (D' E' : td_D), f D = some (r, D') ∧ g E = some (r', E') ∧ jq_o q D E D' E'
theorem jk_0 {q : Nat} {D E : td_D} (h : ji_o q D E) : jk_o q D E D E 0 := ⟨h, jf_0 D, jg_0 E, Int.le_refl _, by omega, by omega, fun _ _ => ⟨rfl, rfl⟩, fun _ _ => ⟨rfl, rfl⟩⟩
theorem jk_t {q l l' : Nat} {D E D1 E1 D2 E2 : td_D} (h : jk_o q D E D1 E1 l) (h' : jk_o q D1 E1 D2 E2 l') : jk_o q D E D2 E2 (l + l') := by
  obtain ⟨a1, a2, a3, a4, a5, a6, a7, a8⟩ := h
  obtain ⟨b1, b2, b3, b4, b5, b6, b7, b8⟩ := h'
  refine ⟨b1, jf_t a2 b2, jg_t a3 b3, by omega, by omega, by omega, fun i hi => ?_, fun i hi => ?_⟩
  · have x := b7 i (by omega)
    have y := a7 i hi
    exact ⟨x.1.trans y.1, x.2.trans y.2⟩
  · have x := b8 i (by omega)
    have y := a8 i hi
    exact ⟨x.1.trans y.1, x.2.trans y.2⟩
/-- one byte on -/
theorem jk_go {q l : Nat} {D E D1 E1 : td_D} (hq : q = 12 ∨ q = 16) (h : jk_o q D E D1 E1 l) (hn : D1 10 2 < D1 10 1) : jk_o q D E (td_upd D1 10 2 (D1 10 2 + 1)) (td_upd E1 1 19 (E1 1 19 + 1)) l := by
  obtain ⟨⟨⟨i1, i2, i3, i4⟩, ⟨i5, i6, i7⟩, ⟨i8, i9⟩, i10⟩, a2, a3, a4, a5, a6, a7, a8⟩ := h
  have e1 : td_upd D1 10 2 (D1 10 2 + 1) 10 = tv_up (D1 10) 2 (D1 10 2 + 1) := tu_at
  have e2 : ∀ r : Nat, r ≠ 10 → td_upd D1 10 2 (D1 10 2 + 1) r = D1 r := fun r hr => tu_row hr
  have e3 : td_upd E1 1 19 (E1 1 19 + 1) 1 = tv_up (E1 1) 19 (E1 1 19 + 1) := tu_at
  have e4 : ∀ r : Nat, r ≠ 1 → td_upd E1 1 19 (E1 1 19 + 1) r = E1 r := fun r hr => tu_row hr
  refine ⟨⟨⟨?_, ?_, ?_, ?_⟩, ⟨?_, ?_, ?_⟩, ⟨?_, ?_⟩, fun i hi => ?_⟩, jf_t a2 (jf_u hq (Or.inl rfl)), jg_t a3 (jg_u (Or.inl rfl)), ?_, ?_, ?_, fun i hi => ?_, fun i hi => ?_⟩
  · rw [e1, tu_same]; omega
  · rw [e1, tu_same, tu_ne (by decide)]; omega
  · rw [e1, tu_ne (by decide)]; exact i3
  · rw [e1, tu_ne (by decide)]; exact i4
  · rw [e1, e3, tu_ne (by decide), tu_ne (by decide)]; exact i5
  · rw [e1, e3, tu_same, tu_same]; omega
  · rw [e3, tu_ne (by decide)]; exact i7
  · rw [e2 q (by omega)]; exact i8
  · rw [e3, tu_ne (by decide)]; exact i9
  · rw [e1, tu_ne (by decide)] at hi
    rw [e4 13 (by decide), e2 11 (by decide)]
    exact i10 i hi
  · rw [e1, tu_same]; omega
  · rw [e2 q (by omega)]; exact a5
  · rw [e3, tu_ne (by decide)]; exact a6
  · rw [e2 (q + 1) (by omega), e2 (q + 2) (by omega)]; exact a7 i hi
  · rw [e4 14 (by decide), e4 15 (by decide)]; exact a8 i hi
/-- what stands open, changed -/
theorem jk_op {q l : Nat} {v : Int} {D E D1 E1 : td_D} (h : jk_o q D E D1 E1 l) : jk_o q D E D1 (td_upd E1 1 21 v) l := by
  obtain ⟨⟨i1, ⟨i5, i6, i7⟩, ⟨i8, i9⟩, i10⟩, a2, a3, a4, a5, a6, a7, a8⟩ := h
  have e3 : td_upd E1 1 21 v 1 = tv_up (E1 1) 21 v := tu_at
  have e4 : ∀ r : Nat, r ≠ 1 → td_upd E1 1 21 v r = E1 r := fun r hr => tu_row hr
  refine ⟨⟨i1, ⟨?_, ?_, ?_⟩, ⟨i8, ?_⟩, fun i hi => ?_⟩, a2, jg_t a3 (jg_u (Or.inr (Or.inr (Or.inl rfl)))), a4, a5, ?_, a7, fun i hi => ?_⟩
  · rw [e3, tu_ne (by decide)]; exact i5
  · rw [e3, tu_ne (by decide)]; exact i6
  · rw [e3, tu_ne (by decide)]; exact i7
  · rw [e3, tu_ne (by decide)]; exact i9
  · rw [e4 13 (by decide)]; exact i10 i hi
  · rw [e3, tu_ne (by decide)]; exact a6
  · rw [e4 14 (by decide), e4 15 (by decide)]; exact a8 i hi
theorem jk_ad {q l : Nat} {c v c' v' : Int} {D E D1 E1 : td_D} (hq : q = 12 ∨ q = 16) (h : jk_o q D E D1 E1 l) (h2 : D1 q 3 < 128) : jk_o q D E (ad_o q c v D1) (am_o c' v' E1) (l + 1) ∧
    ((∀ i : Nat, (i : Int) < D1 q 3 → ad_o q c v D1 (q + 1) i = D1 (q + 1) i ∧ ad_o q c v D1 (q + 2) i = D1 (q + 2) i) ∧ ∀ i : Nat, (i : Int) < 130 + E1 1 22 → am_o c' v' E1 14 i = E1 14 i ∧ am_o c' v' E1 15 i = E1 15 i) ∧
    ad_o q c v D1 (q + 1) (D1 q 3).toNat = c ∧ ad_o q c v D1 (q + 2) (D1 q 3).toNat = v ∧ am_o c' v' E1 14 (130 + (E1 1 22).toNat) = c' ∧ am_o c' v' E1 15 (130 + (E1 1 22).toNat) = v' := by
  obtain ⟨⟨⟨i1, i2, i3, i4⟩, ⟨i5, i6, i7⟩, ⟨i8, i9⟩, i10⟩, a2, a3, a4, a5, a6, a7, a8⟩ := h
  obtain ⟨x1, x2, x3⟩ := ad_at (c := c) (v := v) i8 h2
  obtain ⟨y1, y2, y3⟩ := @am_at c' v' E1
  obtain ⟨z1, z2⟩ := @ad_10 q c v D1 hq
  have fm := @jg_am c' v' E1
  have k1 : ∀ i : Nat, (i : Int) < D1 q 3 → ad_o q c v D1 (q + 1) i = D1 (q + 1) i ∧ ad_o q c v D1 (q + 2) i = D1 (q + 2) i := fun i hi => ⟨by rw [x1, tu_ne (by omega)], by rw [x2, tu_ne (by omega)]⟩
  have k2 : ∀ i : Nat, (i : Int) < 130 + E1 1 22 → am_o c' v' E1 14 i = E1 14 i ∧ am_o c' v' E1 15 i = E1 15 i := fun i hi => ⟨by rw [y1, tu_ne (by omega)], by rw [y2, tu_ne (by omega)]⟩
  refine ⟨⟨⟨⟨?_, ?_, ?_, ?_⟩, ⟨?_, ?_, ?_⟩, ⟨?_, ?_⟩, fun i hi => ?_⟩, jf_t a2 (jf_ad hq), jg_t a3 fm, ?_, ?_, ?_, fun i hi => ?_, fun i hi => ?_⟩, ⟨k1, k2⟩, ?_, ?_, ?_, ?_⟩
  · rw [z1]; exact i1
  · rw [z1]; exact i2
  · rw [z1]; exact i3
  · rw [z1]; exact i4
  · rw [z1, y3, tu_ne (by decide)]; exact i5
  · rw [z1, y3, tu_ne (by decide)]; exact i6
  · rw [y3, tu_ne (by decide)]; exact i7
  · rw [x3]; omega
  · rw [y3, tu_same]; omega
  · rw [z1] at hi
    rw [z2, fm.1 13 (by decide) (by decide) (by decide)]
    exact i10 i hi
  · rw [z1]; exact a4
  · rw [x3]; omega
  · rw [y3, tu_same]; omega
  · have x := k1 i (by omega)
    have y := a7 i hi
    exact ⟨x.1.trans y.1, x.2.trans y.2⟩
  · have x := k2 i (by omega)
    have y := a8 i hi
    exact ⟨x.1.trans y.1, x.2.trans y.2⟩
  · rw [x1, tu_same]
  · rw [x2, tu_same]
  · rw [y1, tu_same]
  · rw [y2, tu_same]
