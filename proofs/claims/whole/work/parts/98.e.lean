theorem ji_m {q : Nat} {D E D' E' : td_D} (h : ji_o q D E) (h1 : D' 10 = D 10) (h2 : D' 11 = D 11) (h3 : 0 ≤ D' q 3) (h4 : E' 13 = E 13) (h5 : ∀ j : Nat, j = 18 ∨ j = 19 ∨ j = 20 ∨ j = 22 → E' 1 j = E 1 j) : ji_o q D' E' := by
  obtain ⟨i, ⟨i5, i6, i7⟩, ⟨i8, i9⟩, i10⟩ := h
  unfold ji_o
  rw [h1, h2, h4, h5 18 (by decide), h5 19 (by decide), h5 20 (by decide), h5 22 (by decide)]
  exact ⟨i, ⟨i5, i6, i7⟩, ⟨h3, i9⟩, i10⟩
def jh_o (E E' : td_D) : Prop := (∀ r : Nat, r ≠ 1 → r ≠ 14 → r ≠ 15 → r ≠ 16 → r ≠ 17 → r ≠ 18 → E' r = E r) ∧ (∀ j : Nat, j ≠ 19 → j ≠ 20 → j ≠ 21 → j ≠ 22 → E' 1 j = E 1 j) ∧ (∀ i : Nat, i < 130 → E' 14 i = E 14 i ∧ E' 15 i = E 15 i) ∧ E' 16 0 = E 16 0 ∧ ∀ i : Nat, i < 61 → E' 17 i = E 17 i ∧ E' 18 i = E 18 i
theorem jh_0 (E : td_D) : jh_o E E := ⟨fun _ _ _ _ _ _ _ => rfl, fun _ _ _ _ _ => rfl, fun _ _ => ⟨rfl, rfl⟩, rfl, fun _ _ => ⟨rfl, rfl⟩⟩
theorem jh_t {A B C : td_D} (h : jh_o A B) (h2 : jh_o B C) : jh_o A C := ⟨fun r a b c d e f => (h2.1 r a b c d e f).trans (h.1 r a b c d e f), fun j a b c d => (h2.2.1 j a b c d).trans (h.2.1 j a b c d), fun i a => ⟨(h2.2.2.1 i a).1.trans (h.2.2.1 i a).1, (h2.2.2.1 i a).2.trans (h.2.2.1 i a).2⟩, h2.2.2.2.1.trans h.2.2.2.1, fun i a => ⟨(h2.2.2.2.2 i a).1.trans (h.2.2.2.2 i a).1, (h2.2.2.2.2 i a).2.trans (h.2.2.2.2 i a).2⟩⟩
theorem jh_g {A B : td_D} (h : jg_o A B) : jh_o A B := ⟨fun r a b c _ _ _ => h.1 r a b c, h.2.1, h.2.2, by rw [h.1 16 (by decide) (by decide) (by decide)], fun i _ => ⟨by rw [h.1 17 (by decide) (by decide) (by decide)], by rw [h.1 18 (by decide) (by decide) (by decide)]⟩⟩
theorem jh_7 {L : Nat} {v : Int} {E : td_D} : jh_o E (td_upd E 17 (61 + L) v) := by
  refine ⟨fun r a b c d e f => tu_row e, fun j _ _ _ _ => by rw [tu_row (by decide)], fun i _ => ⟨by rw [tu_row (by decide)], by rw [tu_row (by decide)]⟩, by rw [tu_row (by decide)], fun i hi => ⟨by rw [tu_at, tu_ne (by omega)], by rw [tu_row (by decide)]⟩⟩
def lz_o (L : Nat) (E : td_D) : td_D := td_upd (td_upd E 18 (61 + L) (E 1 22)) 16 1 (E 16 1 + 1)
theorem jh_z {L : Nat} {E : td_D} : jh_o E (lz_o L E) := by
  unfold lz_o
  refine ⟨fun r a b c d e f => by rw [tu_row d, tu_row f], fun j _ _ _ _ => by rw [tu_row (by decide), tu_row (by decide)], fun i _ => ⟨by rw [tu_row (by decide), tu_row (by decide)], by rw [tu_row (by decide), tu_row (by decide)]⟩, by rw [tu_at, tu_ne (by decide), tu_row (by decide)], fun i hi => ⟨by rw [tu_row (by decide), tu_row (by decide)], by rw [tu_row (by decide), tu_at, tu_ne (by omega)]⟩⟩
theorem lz_r {L r : Nat} {E : td_D} (h : r ≠ 16) (h2 : r ≠ 18) : lz_o L E r = E r := by
  unfold lz_o
  rw [tu_row h, tu_row h2]
theorem tb_is {a : Int} (h : 0 ≤ a) (h2 : a ≤ 200) : tv_i2s (tv_i2s a) = a := by
  unfold tv_i2s
  omega
theorem fm_l66 {L : Nat} {E : td_D} (h : L ≤ 60) (h1 : 0 ≤ E 1 22) (h2 : E 1 22 ≤ 130) (h3 : 0 ≤ E 16 1) (h4 : E 16 1 ≤ 100) : F_X12_line_66 (61 + (L : Int)) E = some (0, lz_o L E) := by
  unfold F_X12_line_66 lz_o
  rw [if_pos (show 0 ≤ 61 + (L : Int) ∧ 61 + (L : Int) < ((122 : Nat) : Int) by omega), tb_l, tb_l, tb_is h1 (by omega), show (61 + (L : Int)).toNat = 61 + L by omega, tu_row (show (16 : Nat) ≠ 18 by decide)]
  rw [show ((1 : Int).toNat) = 1 by rfl, tw_s (a := E 16 1 + 1) (by omega) (by omega)]
/-- a fault in the text -/
def jx_o (q : Nat) (D E D' E' : td_D) : Prop := jf_o q D D' ∧ jh_o E E' ∧ D 10 2 ≤ D' 10 2 ∧ D' 10 2 ≤ D 10 1 ∧ E' 1 20 = D' 10 2 ∧ (D' 10 3 = 1 ∨ (D' 10 3 = 0 ∧ D' 10 2 < D 10 1 ∧ 48 ≤ D 11 (D' 10 2).toNat ∧ D 11 (D' 10 2).toNat ≤ 57))
/-- a line read -/
def jy_o (q : Nat) (D E D' E' : td_D) (L : Nat) : Prop :=
  ji_o q D' E' ∧ jf_o q D D' ∧ jh_o E E' ∧ E' 1 21 = 0 ∧ E' 16 1 = (L : Int) + 1 ∧ D 10 2 + 1 ≤ D' 10 2 ∧ D' q 3 ≤ D' 10 2 + 1 ∧ E' 1 22 ≤ D' 10 2 ∧
  (∀ i : Nat, (i : Int) < D q 3 → D' (q + 1) i = D (q + 1) i ∧ D' (q + 2) i = D (q + 2) i) ∧ (∀ i : Nat, (i : Int) < 130 + E 1 22 → E' 14 i = E 14 i ∧ E' 15 i = E 15 i) ∧ (∀ i : Nat, i < 61 + L → E' 17 i = E 17 i ∧ E' 18 i = E 18 i) ∧
  ∃ a b t n a' : Nat, D q 3 = (a : Int) ∧ E 1 22 = (b : Int) ∧ E' 17 (61 + L) = (t : Int) ∧ E' 18 (61 + L) = (n : Int) ∧ E' 1 22 = (n : Int) ∧ D' q 3 = (a' : Int) ∧ b ≤ t ∧ t < n ∧
    ((b = t ∧ sg_o (D' (q + 1)) (D' (q + 2)) a (E' 14) (E' 15) (130 + b) (n - b) 1 ∧ D' (q + 1) (a + (n - b)) = 5 ∧ a' = a + (n - b) + 1) ∨
    (b < t ∧ sg_o (D' (q + 1)) (D' (q + 2)) a (E' 14) (E' 15) (130 + b) (t - b) 1 ∧ D' (q + 1) (a + (t - b)) = 6 ∧ D' (q + 2) (a + (t - b)) = (a' : Int) ∧ sg_o (D' (q + 1)) (D' (q + 2)) (a + (t - b) + 1) (E' 14) (E' 15) (130 + t) (n - t) 1 ∧ D' (q + 1) (a + (n - b) + 1) = 5 ∧ a' = a + (n - b) + 2))
theorem sg_0 {st vl ac wi : Nat → Int} {a b len : Nat} (h : sg_o st vl a ac wi b len 1) : 0 < len := by
  obtain ⟨-, s2, -⟩ := h
  cases len with
  | zero => cases s2
  | succ n => omega
theorem jx_b {q : Nat} {D E D1 E1 D' E' : td_D} (hq : q = 12 ∨ q = 16) (hf : jf_o q D D1) (h2 : D 10 2 ≤ D1 10 2) (hh : jh_o E E1) (h : jb_o q D1 E1 D' E') : jx_o q D E D' E' := by
  obtain ⟨f, g, b1, b2, b3, b4, b5, -⟩ := h
  have n := hf.2.1 1 (by decide) (by decide)
  have t := hf.1 11 (by decide) (by omega) (by omega) (by omega)
  rw [n] at b2 b5
  rw [t] at b5
  exact ⟨jf_t hf f, jh_t hh (jh_g g), by omega, b2, b4, b5⟩
theorem jx_m {q : Nat} {D E D1 E1 D' E' : td_D} (h : jx_o q D E D1 E1) (hf : jf_o q D1 D') (hh : jh_o E1 E') (h1 : D' 10 = D1 10) (h2 : E' 1 = E1 1) : jx_o q D E D' E' := by
  obtain ⟨f, g, b⟩ := h
  refine ⟨jf_t f hf, jh_t g hh, ?_⟩
  rw [h1, h2]
  exact b
