theorem pg_c {st vl ac wi ac' wi' : Nat → Int} {a b len : Nat} (h : p_seg st vl a ac wi b len) (h2 : ∀ k : Nat, k < len → ac' (b + k) = ac (b + k) ∧ wi' (b + k) = wi (b + k)) : p_seg st vl a ac' wi' b len := by
  obtain ⟨s1, f, f0, f1, s2⟩ := h
  refine ⟨fun k hk => ?_, f, f0, f1, fun k hk => ?_⟩
  · rw [(h2 k hk).1, (h2 k hk).2]; exact s1 k hk
  · rw [(h2 k hk).1]; exact s2 k hk
theorem pc_c {n : Int} {st vl ac wi lm te le ac' wi' lm' te' le' : Nat → Int} (h : p_code n st vl ac wi lm te le) (h1 : ∀ i : Nat, i < 130 → ac' i = ac i ∧ wi' i = wi i) (h2 : lm' 0 = lm 0) (h3 : ∀ i : Nat, i < 61 → te' i = te i ∧ le' i = le i) : p_code n st vl ac' wi' lm' te' le' := by
  obtain ⟨n0, n1, l0, l1, po, fi, ti, p0, f0, pn, hA, hB⟩ := h
  unfold p_code
  rw [h2]
  refine ⟨n0, n1, l0, l1, po, fi, ti, p0, f0, pn, fun l hl => ?_, fun l hl => ?_⟩
  · rw [(h3 l (by omega)).1, (h3 l (by omega)).2]
    exact hA l hl
  · have a := hA l hl
    rcases hB l hl with ⟨x1, x2, x3, x4⟩ | ⟨x1, x2, x3, x4, x5, x6, x7⟩
    · exact Or.inl ⟨x1, pg_c x2 (fun k hk => h1 _ (by omega)), x3, x4⟩
    · exact Or.inr ⟨x1, pg_c x2 (fun k hk => h1 _ (by omega)), x3, x4, pg_c x5 (fun k hk => h1 _ (by omega)), x6, x7⟩
theorem ht_s {ac ac' : Nat → Int} {b b' len : Nat} (h : ∀ k : Nat, k < len → ac' (b' + k) = ac (b + k)) : ∀ k : Nat, k ≤ len → ht_o ac' b' k = ht_o ac b k := by
  intro k
  induction k with
  | zero => intro _; rfl
  | succ k ih =>
    intro z
    show ht_o ac' b' k + _ = ht_o ac b k + _
    rw [ih (by omega), h k (by omega)]
theorem sg_q {st vl ac wi ac' wi' : Nat → Int} {a b b' len : Nat} (h : sg_o st vl a ac wi b' len 1) (h2 : ∀ k : Nat, k < len → ac' (b + k) = tv_i2b (ac (b' + k)) ∧ wi' (b + k) = wi (b' + k)) : p_seg st vl a ac' wi' b len := by
  obtain ⟨s1, s2, s3⟩ := h
  have e : ∀ k : Nat, k < len → ac' (b + k) = ac (b' + k) := fun k hk => by
    rw [(h2 k hk).1]
    have p := s1 k hk
    unfold p_step at p
    exact tb_j (by omega) (by omega)
  have t := ht_s e
  refine sg_p ⟨fun k hk => ?_, ?_, fun k hk => ?_⟩
  · rw [e k hk, (h2 k hk).2]
    exact s1 k hk
  · rw [t len (Nat.le_refl _)]; exact s2
  · rw [t k (by omega), e k hk]; exact s3 k hk
/-- the lines read are code that both hold -/
theorem jm_code {q L : Nat} {D E : td_D} {po fi ti : Nat → Nat} {ac' wi' lm' te' le' : Nat → Int} (h : jm_o q D E L po fi ti) (L1 : 1 ≤ L) (L2 : L ≤ 61) (n2 : D q 3 ≤ 128) (e2 : E 1 22 ≤ 128) (hl : lm' 0 = (L : Int)) (ha : ∀ i : Nat, i < fi L → ac' i = tv_i2b (E 14 (130 + i)) ∧ wi' i = E 15 (130 + i)) (ht : ∀ l : Nat, l < L → te' l = tv_i2s (E 17 (61 + l)) ∧ le' l = tv_i2s (E 18 (61 + l))) : p_code (D q 3) (D (q + 1)) (D (q + 2)) ac' wi' lm' te' le' := by
  have up := fun l (hl : l ≤ L) => jm_up h hl
  obtain ⟨h1, h2, h3, h4, h5⟩ := h
  have u1 := up (0 + 1) (by omega)
  have j0 := jn_p (h5 0 (by omega))
  unfold p_code
  rw [hl]
  refine ⟨by omega, n2, by omega, by omega, po, fi, ti, h1, h2, by rw [Int.toNat_natCast]; omega, fun l hl => ?_, fun l hl => ?_⟩
  · have u := up (l + 1) (by omega)
    obtain ⟨n1, n2, n3, n4, -⟩ := h5 l (by omega)
    rw [(ht l (by omega)).1, (ht l (by omega)).2, n3, n4]
    unfold tv_i2s
    omega
  · have u := up (l + 1) (by omega)
    obtain ⟨n1, n2, n3, n4, n5⟩ := h5 l (by omega)
    have S : ∀ (b len a : Nat), b + len ≤ fi L → sg_o (D (q + 1)) (D (q + 2)) a (E 14) (E 15) (130 + b) len 1 → p_seg (D (q + 1)) (D (q + 2)) a ac' wi' b len := fun b len a hb s => sg_q s (fun k hk => by
      rw [show 130 + b + k = 130 + (b + k) by omega]
      exact ha (b + k) (by omega))
    rcases n5 with ⟨x1, x2, x3, x4⟩ | ⟨x1, x2, x3, x4, x5, x6, x7⟩
    · exact Or.inl ⟨x1, S _ _ _ (by omega) x2, x3, x4⟩
    · exact Or.inr ⟨x1, S _ _ _ (by omega) x2, x3, x4, S _ _ _ (by omega) x5, x6, x7⟩
theorem fm_cp177 {L : Nat} (hL : L ≤ 61) : ∀ (m v : Nat) (E : td_D), v ≤ L → L - v < m → E 16 0 = (L : Int) → ∃ E' : td_D, F_X12_readText_177 m 0 (v : Int) E = some (-1, E') ∧ (∀ r : Nat, r ≠ 17 → r ≠ 18 → E' r = E r) ∧ ∀ i : Nat, (E' 17 i = if v ≤ i ∧ i < L then tv_i2s (E 17 (61 + i)) else E 17 i) ∧ (E' 18 i = if v ≤ i ∧ i < L then tv_i2s (E 18 (61 + i)) else E 18 i) := by
  intro m
  induction m with
  | zero => intro v E q1 q2; omega
  | succ m ih =>
    intro v E q1 q2 q3
    unfold F_X12_readText_177
    rw [if_pos (show 0 ≤ (0 : Int) ∧ (0 : Int) < ((2 : Nat) : Int) by decide), show E 16 (Int.toNat 0) = (L : Int) from q3]
    by_cases z : (L : Int) ≤ (v : Int)
    · rw [if_pos z]
      exact ⟨E, rfl, fun _ _ _ => rfl, fun i => ⟨by rw [if_neg (by omega)], by rw [if_neg (by omega)]⟩⟩
    · have e1 : tv_w (61 + (v : Int)) = 61 + (v : Int) := tw_s (by omega) (by omega)
      have e2 : tv_w (tv_w (61 * 0) + (v : Int)) = (v : Int) := by
        rw [tw_s (a := 61 * 0) (by omega) (by omega), tw_s (by omega) (by omega)]
        omega
      rw [if_neg z, e1, e2, if_pos (show 0 ≤ 61 + (v : Int) ∧ 61 + (v : Int) < ((122 : Nat) : Int) by omega), if_pos (show 0 ≤ (v : Int) ∧ (v : Int) < ((122 : Nat) : Int) by omega), tb_l, tb_l, tw_s (a := (v : Int) + 1) (by omega) (by omega), show (61 + (v : Int)).toNat = 61 + v by omega, Int.toNat_natCast, show (v : Int) + 1 = ((v + 1 : Nat) : Int) by omega, tu_row (show (18 : Nat) ≠ 17 by decide)]
      obtain ⟨E', x1, x2, x3⟩ := ih (v + 1) (td_upd (td_upd E 17 v (tv_i2s (E 17 (61 + v)))) 18 v (tv_i2s (E 18 (61 + v)))) (by omega) (by omega) (by rw [tu_row (by decide), tu_row (by decide)]; exact q3)
      refine ⟨E', x1, fun r a b => by rw [x2 r a b, tu_row b, tu_row a], fun i => ⟨?_, ?_⟩⟩
      · rw [(x3 i).1, tu_row (by decide), tu_at, tu_ne (show 61 + i ≠ v by omega)]
        unfold tv_up
        by_cases c : v + 1 ≤ i ∧ i < L
        · rw [if_pos c, if_pos (by omega)]
        · rw [if_neg c]
          by_cases c2 : i = v
          · rw [if_pos c2, if_pos (by omega), c2]
          · rw [if_neg c2, if_neg (by omega)]
      · rw [(x3 i).2, tu_at, tu_ne (show 61 + i ≠ v by omega), tu_row (by decide)]
        unfold tv_up
        by_cases c : v + 1 ≤ i ∧ i < L
        · rw [if_pos c, if_pos (by omega)]
        · rw [if_neg c]
          by_cases c2 : i = v
          · rw [if_pos c2, if_pos (by omega), c2]
          · rw [if_neg c2, if_neg (by omega)]
theorem fm_cp105 {N : Nat} (hN : N ≤ 130) : ∀ (m v : Nat) (E : td_D), v ≤ N → N - v < m → E 1 22 = (N : Int) → ∃ E' : td_D, F_X12_readText_105 m 0 (v : Int) E = F_X12_readText_177 tf_N 0 0 (td_upd E' 16 0 (E' 16 1)) ∧ (∀ r : Nat, r ≠ 14 → r ≠ 15 → E' r = E r) ∧ ∀ i : Nat, (E' 14 i = if v ≤ i ∧ i < N then tv_i2b (E 14 (130 + i)) else E 14 i) ∧ (E' 15 i = if v ≤ i ∧ i < N then E 15 (130 + i) else E 15 i) := by
  intro m
  induction m with
  | zero => intro v E q1 q2; omega
  | succ m ih =>
    intro v E q1 q2 q3
    unfold F_X12_readText_105
    rw [q3]
    by_cases z : (N : Int) ≤ (v : Int)
    · rw [if_pos z, if_pos (show 0 ≤ (0 : Int) ∧ (0 : Int) < ((2 : Nat) : Int) by decide), tb_l]
      exact ⟨E, rfl, fun _ _ _ => rfl, fun i => ⟨by rw [if_neg (by omega)], by rw [if_neg (by omega)]⟩⟩
    · have e1 : tv_w (130 + (v : Int)) = 130 + (v : Int) := tw_s (by omega) (by omega)
      have e2 : tv_w (tv_w (130 * 0) + (v : Int)) = (v : Int) := by
        rw [tw_s (a := 130 * 0) (by omega) (by omega), tw_s (by omega) (by omega)]
        omega
      rw [if_neg z, e1, e2, if_pos (show 0 ≤ 130 + (v : Int) ∧ 130 + (v : Int) < ((260 : Nat) : Int) by omega), if_pos (show 0 ≤ (v : Int) ∧ (v : Int) < ((260 : Nat) : Int) by omega), tb_l, tb_l, tw_s (a := (v : Int) + 1) (by omega) (by omega), show (130 + (v : Int)).toNat = 130 + v by omega, Int.toNat_natCast, show (v : Int) + 1 = ((v + 1 : Nat) : Int) by omega, tu_row (show (15 : Nat) ≠ 14 by decide)]
      obtain ⟨E', x1, x2, x3⟩ := ih (v + 1) (td_upd (td_upd E 14 v (tv_i2b (E 14 (130 + v)))) 15 v (E 15 (130 + v))) (by omega) (by omega) (by rw [tu_row (by decide), tu_row (by decide)]; exact q3)
      refine ⟨E', x1, fun r a b => by rw [x2 r a b, tu_row b, tu_row a], fun i => ⟨?_, ?_⟩⟩
      · rw [(x3 i).1, tu_row (by decide), tu_at, tu_ne (show 130 + i ≠ v by omega)]
        unfold tv_up
        by_cases c : v + 1 ≤ i ∧ i < N
        · rw [if_pos c, if_pos (by omega)]
        · rw [if_neg c]
          by_cases c2 : i = v
          · rw [if_pos c2, if_pos (by omega), c2]
          · rw [if_neg c2, if_neg (by omega)]
      · rw [(x3 i).2, tu_at, tu_ne (show 130 + i ≠ v by omega), tu_row (by decide)]
        unfold tv_up
        by_cases c : v + 1 ≤ i ∧ i < N
        · rw [if_pos c, if_pos (by omega)]
        · rw [if_neg c]
          by_cases c2 : i = v
          · rw [if_pos c2, if_pos (by omega), c2]
          · rw [if_neg c2, if_neg (by omega)]
