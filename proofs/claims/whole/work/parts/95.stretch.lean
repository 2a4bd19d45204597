/-- how many values lie there after k steps -/
def ht_o (ac : Nat → Int) (b : Nat) : Nat → Int
  | 0 => 0
  | k + 1 => ht_o ac b k + (if ac (b + k) ≤ 2 then 1 else if ac (b + k) ≤ 4 then 0 else -1)
theorem ht_c {ac ac' : Nat → Int} {b len : Nat} (h : ∀ k : Nat, k < len → ac' (b + k) = ac (b + k)) : ∀ k : Nat, k ≤ len → ht_o ac' b k = ht_o ac b k := by
  intro k
  induction k with
  | zero => intro _; rfl
  | succ k ih =>
    intro z
    show ht_o ac' b k + _ = ht_o ac b k + _
    rw [ih (by omega), h k (by omega)]
theorem ht_a {ac : Nat → Int} {b j : Nat} : ∀ k : Nat, ht_o ac b (j + k) = ht_o ac b j + ht_o ac (b + j) k := by
  intro k
  induction k with
  | zero => show _ = _ + 0; rw [Int.add_zero]; rfl
  | succ k ih =>
    show ht_o ac b (j + k) + (if ac (b + (j + k)) ≤ 2 then 1 else if ac (b + (j + k)) ≤ 4 then 0 else -1) = ht_o ac b j + (ht_o ac (b + j) k + _)
    rw [ih, show b + (j + k) = b + j + k by omega, Int.add_assoc]
/-- a stretch that leaves n values more -/
def sg_o (st vl : Nat → Int) (a : Nat) (ac wi : Nat → Int) (b len : Nat) (n : Int) : Prop :=
  (∀ k : Nat, k < len → p_step (st (a + k)) (vl (a + k)) (ac (b + k)) (wi (b + k))) ∧ ht_o ac b len = n ∧
  ∀ k : Nat, k < len → (3 ≤ ac (b + k) → 1 ≤ ht_o ac b k) ∧ (5 ≤ ac (b + k) → 2 ≤ ht_o ac b k)
theorem sg_c {st vl ac wi st' vl' ac' wi' : Nat → Int} {a b len : Nat} {n : Int} (h : sg_o st vl a ac wi b len n) (h1 : ∀ k : Nat, k < len → st' (a + k) = st (a + k) ∧ vl' (a + k) = vl (a + k)) (h2 : ∀ k : Nat, k < len → ac' (b + k) = ac (b + k) ∧ wi' (b + k) = wi (b + k)) : sg_o st' vl' a ac' wi' b len n := by
  obtain ⟨s1, s2, s3⟩ := h
  have e := ht_c (ac := ac) (ac' := ac') (b := b) (len := len) (fun k hk => (h2 k hk).1)
  refine ⟨fun k hk => ?_, ?_, fun k hk => ?_⟩
  · rw [(h1 k hk).1, (h1 k hk).2, (h2 k hk).1, (h2 k hk).2]
    exact s1 k hk
  · rw [e len (Nat.le_refl _)]
    exact s2
  · rw [e k (by omega), (h2 k hk).1]
    exact s3 k hk
/-- one step by itself -/
theorem sg_1 {st vl ac wi : Nat → Int} {a b : Nat} (h : p_step (st a) (vl a) (ac b) (wi b)) (h2 : ac b ≤ 2) : sg_o st vl a ac wi b 1 1 := by
  refine ⟨fun k hk => ?_, ?_, fun k hk => ?_⟩
  · rw [show k = 0 by omega]; exact h
  · show 0 + (if ac b ≤ 2 then (1 : Int) else _) = 1
    rw [if_pos h2]; rfl
  · rw [show k = 0 by omega]
    show (3 ≤ ac b → _) ∧ (5 ≤ ac b → _)
    exact ⟨fun z => by omega, fun z => by omega⟩
/-- a stretch and one step on one value -/
theorem sg_u {st vl ac wi : Nat → Int} {a b len : Nat} (h : sg_o st vl a ac wi b len 1) (h1 : p_step (st (a + len)) (vl (a + len)) (ac (b + len)) (wi (b + len))) (h2 : ac (b + len) = 3 ∨ ac (b + len) = 4) : sg_o st vl a ac wi b (len + 1) 1 := by
  obtain ⟨s1, s2, s3⟩ := h
  refine ⟨fun k hk => ?_, ?_, fun k hk => ?_⟩
  · by_cases z : k = len
    · rw [z]; exact h1
    · exact s1 k (by omega)
  · show ht_o ac b len + (if ac (b + len) ≤ 2 then (1 : Int) else if ac (b + len) ≤ 4 then 0 else -1) = 1
    rw [if_neg (by omega), if_pos (by omega), s2]; rfl
  · by_cases z : k = len
    · rw [z, s2]; omega
    · exact s3 k (by omega)
/-- two stretches and one step on two values -/
theorem sg_b {st vl ac wi : Nat → Int} {a b j len : Nat} (h : sg_o st vl a ac wi b j 1) (h' : sg_o st vl (a + j) ac wi (b + j) len 1) (h1 : p_step (st (a + (j + len))) (vl (a + (j + len))) (ac (b + (j + len))) (wi (b + (j + len)))) (h2 : 5 ≤ ac (b + (j + len))) : sg_o st vl a ac wi b (j + len + 1) 1 := by
  obtain ⟨s1, s2, s3⟩ := h
  obtain ⟨t1, t2, t3⟩ := h'
  refine ⟨fun k hk => ?_, ?_, fun k hk => ?_⟩
  · by_cases z : k < j
    · exact s1 k z
    · by_cases z2 : k = j + len
      · rw [z2]; exact h1
      · have t := t1 (k - j) (by omega)
        rw [show a + j + (k - j) = a + k by omega, show b + j + (k - j) = b + k by omega] at t
        exact t
  · show ht_o ac b (j + len) + (if ac (b + (j + len)) ≤ 2 then (1 : Int) else if ac (b + (j + len)) ≤ 4 then 0 else -1) = 1
    rw [if_neg (by omega), if_neg (by omega), ht_a, s2, t2]; rfl
  · by_cases z : k < j
    · exact s3 k z
    · by_cases z2 : k = j + len
      · rw [z2, ht_a, s2, t2]; omega
      · have t := t3 (k - j) (by omega)
        have u := ht_a (ac := ac) (b := b) (j := j) (k - j)
        rw [show j + (k - j) = k by omega] at u
        rw [show b + j + (k - j) = b + k by omega] at t
        rw [u, s2]
        omega
/-- such a stretch is one of the law's -/
theorem sg_p {st vl ac wi : Nat → Int} {a b len : Nat} (h : sg_o st vl a ac wi b len 1) : p_seg st vl a ac wi b len := by
  obtain ⟨s1, s2, s3⟩ := h
  have n0 : ∀ k : Nat, k ≤ len → 0 ≤ ht_o ac b k := by
    intro k
    induction k with
    | zero => intro _; exact Int.le_refl _
    | succ k ih =>
      intro z
      have i := ih (by omega)
      have t := s3 k (by omega)
      show 0 ≤ ht_o ac b k + _
      split
      · omega
      · split
        · omega
        · omega
  refine ⟨s1, fun k => (ht_o ac b k).toNat, rfl, by show (ht_o ac b len).toNat = 1; rw [s2]; rfl, fun k hk => ?_⟩
  have i := n0 k (by omega)
  have i2 := n0 (k + 1) (by omega)
  have t := s3 k hk
  have p := s1 k hk
  have e : ht_o ac b (k + 1) = ht_o ac b k + (if ac (b + k) ≤ 2 then 1 else if ac (b + k) ≤ 4 then 0 else -1) := rfl
  have c : (ac (b + k) = 1 ∨ ac (b + k) = 2) ∨ (ac (b + k) = 3 ∨ ac (b + k) = 4) ∨ 5 ≤ ac (b + k) := by
    unfold p_step at p
    omega
  show (_ ∧ (ht_o ac b (k + 1)).toNat = (ht_o ac b k).toNat + 1) ∨ (_ ∧ 1 ≤ (ht_o ac b k).toNat ∧ (ht_o ac b (k + 1)).toNat = (ht_o ac b k).toNat) ∨ (_ ∧ 2 ≤ (ht_o ac b k).toNat ∧ (ht_o ac b (k + 1)).toNat + 1 = (ht_o ac b k).toNat)
  rcases c with c | c | c
  · rw [if_pos (by omega)] at e
    exact Or.inl ⟨c, by omega⟩
  · rw [if_neg (by omega), if_pos (by omega)] at e
    exact Or.inr (Or.inl ⟨c, by omega, by omega⟩)
  · rw [if_neg (by omega), if_neg (by omega)] at e
    exact Or.inr (Or.inr ⟨c, by omega, by omega⟩)
