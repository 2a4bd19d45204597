/-- a line of the law as it was read -/
def jn_o (st vl ac wi te le : Nat → Int) (l a a' b n t : Nat) : Prop :=
  b ≤ t ∧ t < n ∧ te (61 + l) = (t : Int) ∧ le (61 + l) = (n : Int) ∧
    ((b = t ∧ sg_o st vl a ac wi (130 + b) (n - b) 1 ∧ st (a + (n - b)) = 5 ∧ a' = a + (n - b) + 1) ∨
    (b < t ∧ sg_o st vl a ac wi (130 + b) (t - b) 1 ∧ st (a + (t - b)) = 6 ∧ vl (a + (t - b)) = (a' : Int) ∧ sg_o st vl (a + (t - b) + 1) ac wi (130 + t) (n - t) 1 ∧ st (a + (n - b) + 1) = 5 ∧ a' = a + (n - b) + 2))
theorem jn_c {st vl ac wi te le st' vl' ac' wi' te' le' : Nat → Int} {l a a' b n t : Nat} (h : jn_o st vl ac wi te le l a a' b n t) (h1 : ∀ i : Nat, i < a' → st' i = st i ∧ vl' i = vl i) (h2 : ∀ i : Nat, i < 130 + n → ac' i = ac i ∧ wi' i = wi i) (h3 : te' (61 + l) = te (61 + l) ∧ le' (61 + l) = le (61 + l)) : jn_o st' vl' ac' wi' te' le' l a a' b n t := by
  obtain ⟨n1, n2, n3, n4, n5⟩ := h
  refine ⟨n1, n2, h3.1.trans n3, h3.2.trans n4, ?_⟩
  rcases n5 with ⟨x1, x2, x3, x4⟩ | ⟨x1, x2, x3, x4, x5, x6, x7⟩
  · refine Or.inl ⟨x1, sg_c x2 (fun k hk => h1 _ (by omega)) (fun k hk => h2 _ (by omega)), ?_, x4⟩
    rw [(h1 _ (by omega)).1]; exact x3
  · refine Or.inr ⟨x1, sg_c x2 (fun k hk => h1 _ (by omega)) (fun k hk => h2 _ (by omega)), ?_, ?_, sg_c x5 (fun k hk => h1 _ (by omega)) (fun k hk => h2 _ (by omega)), ?_, x7⟩
    · rw [(h1 _ (by omega)).1]; exact x3
    · rw [(h1 _ (by omega)).2]; exact x4
    · rw [(h1 _ (by omega)).1]; exact x6
theorem jn_p {st vl ac wi te le : Nat → Int} {l a a' b n t : Nat} (h : jn_o st vl ac wi te le l a a' b n t) : a < a' ∧ b < n := by
  obtain ⟨n1, n2, n3, n4, n5⟩ := h
  refine ⟨?_, by omega⟩
  rcases n5 with ⟨x1, x2, x3, x4⟩ | ⟨x1, x2, x3, x4, x5, x6, x7⟩
  · omega
  · omega
def jm_o (q : Nat) (D E : td_D) (L : Nat) (po fi ti : Nat → Nat) : Prop :=
  po 0 = 0 ∧ fi 0 = 0 ∧ D q 3 = (po L : Int) ∧ E 1 22 = (fi L : Int) ∧ ∀ l : Nat, l < L → jn_o (D (q + 1)) (D (q + 2)) (E 14) (E 15) (E 17) (E 18) l (po l) (po (l + 1)) (fi l) (fi (l + 1)) (ti l)
theorem nm_up {f : Nat → Nat} {L : Nat} (h : ∀ l : Nat, l < L → f l < f (l + 1)) : ∀ (j l : Nat), l + j = L → f l ≤ f L := by
  intro j
  induction j with
  | zero => intro l z; rw [show l = L by omega]; exact Nat.le_refl _
  | succ j ih =>
    intro l z
    have a := ih (l + 1) (by omega)
    have b := h l (by omega)
    omega
theorem jm_up {q L : Nat} {D E : td_D} {po fi ti : Nat → Nat} (h : jm_o q D E L po fi ti) {l : Nat} (hl : l ≤ L) : po l ≤ po L ∧ fi l ≤ fi L :=
  ⟨nm_up (fun l h2 => (jn_p (h.2.2.2.2 l h2)).1) (L - l) l (by omega), nm_up (fun l h2 => (jn_p (h.2.2.2.2 l h2)).2) (L - l) l (by omega)⟩
theorem jm_add {q L : Nat} {D E D' E' : td_D} {po fi ti : Nat → Nat} (h : jm_o q D E L po fi ti) (hy : jy_o q D E D' E' L) : ∃ po' fi' ti' : Nat → Nat, jm_o q D' E' (L + 1) po' fi' ti' := by
  obtain ⟨-, -, -, -, -, -, -, -, k1, k2, k3, a, b, t, n, a', y1, y2, y3, y4, y5, y6, y7, y8, y9⟩ := hy
  have up := fun l (hl : l ≤ L) => jm_up h hl
  obtain ⟨h1, h2, h3, h4, h5⟩ := h
  have P : ∀ l : Nat, l ≤ L → (fun k => if k = L + 1 then a' else po k) l = po l := fun l hl => if_neg (by omega)
  have F : ∀ l : Nat, l ≤ L → (fun k => if k = L + 1 then n else fi k) l = fi l := fun l hl => if_neg (by omega)
  have P1 : (fun k => if k = L + 1 then a' else po k) (L + 1) = a' := if_pos rfl
  have F1 : (fun k => if k = L + 1 then n else fi k) (L + 1) = n := if_pos rfl
  have T : ∀ l : Nat, l < L → (fun k => if k = L then t else ti k) l = ti l := fun l hl => if_neg (by omega)
  have T1 : (fun k => if k = L then t else ti k) L = t := if_pos rfl
  refine ⟨fun k => if k = L + 1 then a' else po k, fun k => if k = L + 1 then n else fi k, fun k => if k = L then t else ti k, (P 0 (by omega)).trans h1, (F 0 (by omega)).trans h2, by rw [P1]; exact y6, by rw [F1]; exact y5, fun l hl => ?_⟩
  by_cases z : l = L
  · subst z
    rw [P l (Nat.le_refl _), P1, F l (Nat.le_refl _), F1, T1]
    rw [show po l = a by omega, show fi l = b by omega]
    exact ⟨y7, y8, y3, y4, y9⟩
  · rw [P l (by omega), P (l + 1) (by omega), F l (by omega), F (l + 1) (by omega), T l (by omega)]
    have u := up (l + 1) (by omega)
    exact jn_c (h5 l (by omega)) (fun i hi => k1 i (by omega)) (fun i hi => k2 i (by omega)) (k3 _ (by omega))
/-- the text read so far -/
def jt_o (q : Nat) (D0 E0 D E : td_D) (L : Nat) : Prop :=
  ji_o q D E ∧ jf_o q D0 D ∧ jh_o E0 E ∧ E 1 21 = 0 ∧ E 16 1 = (L : Int) ∧ 1 ≤ L ∧ 2 * (L : Int) ≤ D 10 2 + 1 ∧ D q 3 ≤ D 10 2 + 1 ∧ E 1 22 ≤ D 10 2 ∧ ∃ po fi ti : Nat → Nat, jm_o q D E L po fi ti
def jz_o (q : Nat) (D0 E0 D E : td_D) : Prop := jf_o q D0 D ∧ jh_o E0 E ∧ E 1 20 = D 10 2 ∧ 0 ≤ D 10 2 ∧ D 10 2 ≤ 120
theorem fe_into65 {D : td_D} : F_X9_readInto_65 D = if D 10 3 = 0 ∧ D 10 1 ≤ D 10 2 then some (-1, D) else some (D 10 2, D) := by
  unfold F_X9_readInto_65
  by_cases a : D 10 3 = 0
  · by_cases b : D 10 1 ≤ D 10 2
    · rw [if_pos a, if_pos b, if_pos ⟨a, b⟩]
    · rw [if_pos a, if_neg b, if_neg (fun z => b z.2)]
  · rw [if_neg a, if_neg (fun z => a z.1)]
theorem j_text {q : Nat} {D0 E0 : td_D} (hq : q = 12 ∨ q = 16) (h0 : D0 10 2 = 0) (hn : D0 10 1 ≤ 120) : ∀ (j m m2 : Nat) (v : Int) (D E : td_D), ((∃ L : Nat, jt_o q D0 E0 D E L) ∨ jx_o q D0 E0 D E) → D0 10 1 - D 10 2 < (j : Int) → j ≤ m → j ≤ m2 → 0 ≤ v → v ≤ D 10 2 → ∃ D' E' : td_D, (F_X12_readText_31 m2 0 E = F_X12_readText_86 0 E') ∧ (((∃ L : Nat, jt_o q D0 E0 D' E' L) ∧ F_X9_readInto_22 m q v D = some (-1, D')) ∨ (jz_o q D0 E0 D' E' ∧ F_X9_readInto_22 m q v D = some (D' 10 2, D'))) := by
  intro j
  induction j with
  | zero =>
    intro m m2 v D E h q1 q2 q3 q4 q5
    rcases h with ⟨L, h⟩ | h
    · have n := h.2.1.2.1 1 (by decide) (by decide)
      have i := h.1.1.2.1
      omega
    · have i := h.2.2.2.1
      omega
  | succ j ih =>
    intro m m2 v D E h q1 q2 q3 q4 q5
    obtain ⟨m', rfl⟩ : ∃ m' : Nat, m = m' + 1 := ⟨m - 1, by omega⟩
    obtain ⟨m2', rfl⟩ : ∃ m' : Nat, m2 = m' + 1 := ⟨m2 - 1, by omega⟩
    unfold F_X9_readInto_22 F_X12_readText_31
    simp only [fe_into65]
    rcases id h with ⟨L, ht⟩ | hx
    · obtain ⟨hi, hf, hh, t1, t2, t3, t4, t5, t6, po, fi, ti, hm⟩ := id ht
      have n := hf.2.1 1 (by decide) (by decide)
      obtain ⟨⟨j1, j2, j3, j4⟩, ⟨j5, j6, j7⟩, ⟨j8, j9⟩, j10⟩ := id hi
      obtain ⟨c, c', s1, s2, s3, s4⟩ := jc_sign hi
      rw [if_neg (show ¬ 0 ≤ E 1 20 by omega), s2, tb_s, s1, tb_s, if_neg (show ¬ 0 ≤ E 1 20 by omega)]
      by_cases z : c = 59
      · have z' : c' = 59 := by unfold cr_o at s3; omega
        have hnn : D 10 2 < D 10 1 := by omega
        have k := jk_go hq (jk_0 hi) hnn
        have kn := jk_n k
        have b2 : td_upd D 10 2 (D 10 2 + 1) 10 2 = D 10 2 + 1 := by rw [tu_at, tu_same]
        have c2 : ∀ r : Nat, r ≠ 10 → td_upd D 10 2 (D 10 2 + 1) r = D r := fun r hr => tu_row hr
        have c3 : ∀ r : Nat, r ≠ 1 → td_upd E 1 19 (E 1 19 + 1) r = E r := fun r hr => tu_row hr
        have c4 : ∀ j : Nat, j ≠ 19 → td_upd E 1 19 (E 1 19 + 1) 1 j = E 1 j := fun j hj => by rw [tu_at, tu_ne hj]
        rw [if_neg (show ¬ (120 : Int) ≤ v by omega), if_pos j4, if_pos z, if_pos z', tb_l, tb_l, tw_s (a := D 10 2 + 1) (by omega) (by omega), tw_s (a := E 1 19 + 1) (by omega) (by omega), tw_s (a := v + 1) (by omega) (by omega)]
        have kj := k.2.1
        have kg := k.2.2.1
        have kji := k.1
        generalize td_upd D 10 2 (D 10 2 + 1) = D5 at *
        generalize td_upd E 1 19 (E 1 19 + 1) = E5 at *
        have d5q : D5 q = D q := c2 q (by omega)
        have d53 : D5 q 3 = D q 3 := by rw [d5q]
        have e22 : E5 1 22 = E 1 22 := c4 22 (by decide)
        have hm5 : jm_o q D5 E5 L po fi ti := by
          unfold jm_o at hm ⊢
          rw [d53, e22, c2 (q + 1) (by omega), c2 (q + 2) (by omega), c3 14 (by decide), c3 15 (by decide), c3 17 (by decide), c3 18 (by decide)]
          exact hm
        obtain ⟨x, y, D6, E6, u1, u2, u3⟩ := j_line (L := L) hq kji (by omega) (by omega) (by rw [c4 21 (by decide)]; exact t1) (by rw [c3 16 (by decide)]; exact t2) (by omega)
        rw [u1, tb_s, u2, tb_s]
        have next : ((∃ L : Nat, jt_o q D0 E0 D6 E6 L) ∨ jx_o q D0 E0 D6 E6) ∧ D 10 2 + 1 ≤ D6 10 2 := by
          rcases u3 with hy | hx
          · obtain ⟨po', fi', ti', hm6⟩ := jm_add hm5 hy
            obtain ⟨y1, y2, y3, y4, y5, y6, y7, y8, -⟩ := hy
            exact ⟨Or.inl ⟨L + 1, y1, jf_t hf (jf_t kj y2), jh_t hh (jh_t (jh_g kg) y3), y4, by omega, by omega, by omega, y7, y8, po', fi', ti', hm6⟩, by omega⟩
          · obtain ⟨f, g, b1, b2', b3, b4⟩ := hx
            have t := (jf_t hf kj).1 11 (by decide) (by omega) (by omega) (by omega)
            rw [kn, n] at b2' b4
            rw [t] at b4
            exact ⟨Or.inr ⟨jf_t hf (jf_t kj f), jh_t hh (jh_t (jh_g kg) g), by omega, b2', b3, b4⟩, by omega⟩
        exact ih m' m2' (v + 1) D6 E6 next.1 (by omega) (by omega) (by omega) (by omega) (by omega)
      · have z' : ¬ c' = 59 := by unfold cr_o at s3; omega
        rw [if_neg z, if_neg z', if_pos j4, ite_self]
        by_cases w : D 10 1 ≤ D 10 2
        · rw [if_pos (show D 10 3 = 0 ∧ D 10 1 ≤ D 10 2 from ⟨j4, w⟩), if_pos (show E 1 18 ≤ E 1 19 by omega)]
          exact ⟨D, E, rfl, Or.inl ⟨⟨L, ht⟩, rfl⟩⟩
        · rw [if_neg (show ¬ (D 10 3 = 0 ∧ D 10 1 ≤ D 10 2) from fun p => w p.2), if_neg (show ¬ E 1 18 ≤ E 1 19 by omega), fm_wrong1 (by omega), tb_s]
          refine ⟨D, _, rfl, Or.inr ⟨⟨hf, jh_t hh (jh_g (jg_u (Or.inr (Or.inl rfl)))), ?_, j1, by omega⟩, rfl⟩⟩
          rw [tu_at, tu_same]; exact j6
    · obtain ⟨f, g, b1, b2, b3, b4⟩ := id hx
      have n := f.2.1 1 (by decide) (by decide)
      have t := f.1 11 (by decide) (by omega) (by omega) (by omega)
      rw [if_pos (show 0 ≤ E 1 20 by omega), if_pos (show 0 ≤ E 1 20 by omega)]
      refine ⟨D, E, rfl, Or.inr ⟨⟨f, g, b3, by omega, by omega⟩, ?_⟩⟩
      rcases b4 with b4 | ⟨b4, b5, b6, b7⟩
      · rw [if_neg (show ¬ (D 10 3 = 0 ∧ D 10 1 ≤ D 10 2) from fun p => by omega), if_neg (show ¬ D 10 3 = 0 by omega), ite_self]
      · have s : F_X9_sign D = some (D0 11 (D 10 2).toNat, D) := by
          unfold F_X9_sign
          rw [n, t, if_neg (by omega), if_pos (show 0 ≤ D 10 2 ∧ D 10 2 < ((120 : Nat) : Int) by omega)]
        rw [if_neg (show ¬ (D 10 3 = 0 ∧ D 10 1 ≤ D 10 2) from fun p => by omega), if_pos b4, s, tb_s, if_neg (show ¬ D0 11 (D 10 2).toNat = 59 by omega), if_neg (show ¬ (D 10 3 = 0 ∧ D 10 1 ≤ D 10 2) from fun p => by omega), ite_self]
