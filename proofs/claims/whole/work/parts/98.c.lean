/-- a sign, and what it stands before -/
theorem j_sgn {q l : Nat} {o r c : Int} {f g : td_D → Option (Int × td_D)} {D E D1 E1 : td_D} (hq : q = 12 ∨ q = 16) (H : jl_o q o f g) (hi : ji_o q D E) (hs : D q 3 ≤ D 10 2) (hl : E 1 22 ≤ D 10 2) (ho : E 1 21 = o) (hw : jw_o q D E D1 E1 l) (h21 : E1 1 21 = E 1 21) (hn : D1 10 2 < D1 10 1) (r0 : 0 ≤ r) (hc : rk_o c = r) : ∃ (x y : Int) (D3 E3 : td_D), f (td_upd D1 10 2 (tv_w (D1 10 2 + 1))) = some (x, D3) ∧ g (td_upd E1 1 19 (tv_w (E1 1 19 + 1))) = some (y, E3) ∧ F_X1_add q c 0 D3 = some (0, ad_o q c 0 D3) ∧ F_X12_addStep c 0 E3 = some (0, am_o c 0 E3) ∧ jq_o q D E (ad_o q c 0 D3) (am_o c 0 E3) ∧ D1 10 2 + 1 ≤ ad_o q c 0 D3 10 2 := by
  have hk := hw.1
  have hll := hw.2.1
  obtain ⟨⟨⟨j1, j2, j3, j4⟩, ⟨j5, j6, j7⟩, ⟨j8, j9⟩, j10⟩, -, -, a4, a5, a6, -, -⟩ := id hk
  have k := jk_go hq (jk_0 hk.1) hn
  rw [tw_s (a := D1 10 2 + 1) (by omega) (by omega), tw_s (a := E1 1 19 + 1) (by omega) (by omega)]
  have a2 : td_upd D1 10 2 (D1 10 2 + 1) 10 2 = D1 10 2 + 1 := by rw [tu_at, tu_same]
  have kq := k.2.2.2.2.1
  have kl := k.2.2.2.2.2.1
  have kn := jk_n k
  have kn0 := jk_n hk
  have o2 : td_upd E1 1 19 (E1 1 19 + 1) 1 21 = o := by rw [tu_at, tu_ne (by decide), h21, ho]
  generalize td_upd D1 10 2 (D1 10 2 + 1) = D2 at *
  generalize td_upd E1 1 19 (E1 1 19 + 1) = E2 at *
  obtain ⟨x, y, D3, E3, x1, x2, x3⟩ := H D2 E2 k.1 (by omega) (by omega) o2
  have p3 : 0 ≤ D3 q 3 ∧ 0 ≤ E3 1 22 ∧ E3 1 22 < 130 ∧ D2 10 2 ≤ D3 10 2 := by
    rcases x3 with ⟨-, l', ⟨⟨⟨⟨j1, j2, j3, j4⟩, -, ⟨j8, j9⟩, -⟩, -, -, j11, j5, j6, -, -⟩, j7, -⟩⟩ | ⟨-, -, b1, b2, -, -, -, b6, b7, b8⟩
    · omega
    · omega
  have rc := rk_c c
  refine ⟨x, y, D3, E3, x1, x2, fe_lst hq p3.1, fm_lst p3.2.1 p3.2.2.1 (by omega) (by omega), ?_, ?_⟩
  · rcases x3 with ⟨z, l', jw⟩ | jb
    · refine Or.inl ⟨?_, l + l' + 1, jw_b hq hi hw k (by omega) jw ?_ (Or.inr (Or.inr (Or.inr (Or.inr ⟨rfl, by omega⟩)))) (by omega)⟩
      · rw [(@am_at c 0 _).2.2, tu_ne (by decide), z, o2, ho]
      · obtain ⟨⟨⟨⟨j1, j2, j3, j4⟩, -, -, -⟩, -, -, -, j5, -, -, -⟩, j7, -⟩ := jw
        omega
    · exact Or.inr (jb_ad hq (jk_t hk k) (by omega) jb)
  · rw [(ad_10 hq).1]
    omega
theorem j_loop {q : Nat} {o r : Int} {G : Nat → td_D → Option (Int × td_D)} {rc : Nat → Nat → Int → Int → td_D → Option (Int × td_D)} {g : td_D → Option (Int × td_D)} {D E : td_D} (hq : q = 12 ∨ q = 16) (H : jl_o q o (fun D => rc 0 q (r + 1) o D) g)
    (hG1 : ∀ (m : Nat) (E : td_D), 0 ≤ E 1 20 → G (m + 1) E = some (0, E))
    (hG2 : ∀ (m : Nat) (E : td_D) (c' : Int), E 1 20 < 0 → F_X12_look E = some (c', E) → rk_o c' ≠ r → G (m + 1) E = some (0, E))
    (hG3 : ∀ (m : Nat) (E : td_D) (c' : Int), E 1 20 < 0 → F_X12_look E = some (c', E) → rk_o c' = r → G (m + 1) E = td_b (g (td_upd E 1 19 (tv_w (E 1 19 + 1)))) fun _ E5 => td_b (F_X12_addStep c' 0 E5) fun _ E7 => G m E7)
    (r0 : 0 ≤ r) (r4 : r ≤ 4) (hi : ji_o q D E) (hs : D q 3 ≤ D 10 2) (hl : E 1 22 ≤ D 10 2) (ho : E 1 21 = o) : ∀ (j m m2 : Nat) (v : Int) (D1 E1 : td_D), jq_o q D E D1 E1 → D 10 1 - D1 10 2 < (j : Int) → j ≤ m → j ≤ m2 → 0 ≤ v → v ≤ D1 10 2 → ∃ (x y : Int) (D' E' : td_D), F_X9_readRank_37 rc m q r o 120 v D1 = some (x, D') ∧ G m2 E1 = some (y, E') ∧ jq_o q D E D' E' := by
  obtain ⟨⟨i1, i2, i3, i4⟩, ⟨i5, i6, i7⟩, ⟨i8, i9⟩, i10⟩ := id hi
  intro j
  induction j with
  | zero =>
    intro m m2 v D1 E1 h q1 q2 q3 q4 q5
    rcases h with ⟨-, l, hw⟩ | hb
    · have n := jk_n hw.1
      have i := hw.1.1.1.2.1
      omega
    · have i := hb.2.2.2.1
      omega
  | succ j ih =>
    intro m m2 v D1 E1 h q1 q2 q3 q4 q5
    obtain ⟨m', rfl⟩ : ∃ m' : Nat, m = m' + 1 := ⟨m - 1, by omega⟩
    obtain ⟨m2', rfl⟩ : ∃ m' : Nat, m2 = m' + 1 := ⟨m2 - 1, by omega⟩
    rcases id h with ⟨h21, l, hw⟩ | hb
    · have n := jk_n hw.1
      have hji := hw.1.1
      obtain ⟨⟨j1, j2, j3, j4⟩, ⟨j5, j6, j7⟩, ⟨j8, j9⟩, j10⟩ := id hji
      obtain ⟨c, c', s1, s2, s3, s4⟩ := jc_sign hji
      have rc1 := rk_c c
      have rs := rk_s s3
      unfold F_X9_readRank_37
      by_cases z : rk_o c = r
      · have hn : D1 10 2 < D1 10 1 := by omega
        have cc : c' = c := by unfold cr_o at s3; omega
        subst cc
        obtain ⟨x, y, D3, E3, t1, t2, t3, t4, t5, t6⟩ := j_sgn hq H hi hs hl ho hw h21 hn r0 z
        rw [if_neg (show ¬ (120 : Int) ≤ v by omega), if_pos j4, s1, tb_s, fe_rankOf, tb_s, if_pos z, s1, tb_s, tb_l, tw_s (a := r + 1) (by omega) (by omega), t1, tb_s, t3, tb_s, tw_s (a := v + 1) (by omega) (by omega), hG3 _ _ _ (by omega) s2 z, t2, tb_s, t4, tb_s]
        exact ih m' m2' (v + 1) _ _ t5 (by omega) (by omega) (by omega) (by omega) (by omega)
      · rw [hG2 _ _ _ (by omega) s2 (by rw [rs]; exact z), if_pos j4, s1, tb_s, fe_rankOf, tb_s, if_neg z, ite_self]
        exact ⟨_, _, _, _, rfl, rfl, h⟩
    · have f20 : 0 ≤ E1 1 20 := by
        obtain ⟨-, -, b1, b2, b3, b4, -⟩ := hb
        omega
      rw [hG1 _ _ f20]
      unfold F_X9_readRank_37
      rcases jb_sign hq i3 i1 hb with w | ⟨w, d, t1, t2, t3, t4⟩
      · rw [if_neg (show ¬ D1 10 3 = 0 by omega), ite_self]
        exact ⟨_, _, _, _, rfl, rfl, h⟩
      · have rd := rk_c d
        rw [if_pos w, t1, tb_s, fe_rankOf, tb_s, if_neg (show ¬ rk_o d = r by omega), ite_self]
        exact ⟨_, _, _, _, rfl, rfl, h⟩
theorem j_lev {q : Nat} {o r : Int} {G : Nat → td_D → Option (Int × td_D)} {rc : Nat → Nat → Int → Int → td_D → Option (Int × td_D)} {g : td_D → Option (Int × td_D)} (hq : q = 12 ∨ q = 16) (H : jl_o q o (fun D => rc 0 q (r + 1) o D) g)
    (hG1 : ∀ (m : Nat) (E : td_D), 0 ≤ E 1 20 → G (m + 1) E = some (0, E))
    (hG2 : ∀ (m : Nat) (E : td_D) (c' : Int), E 1 20 < 0 → F_X12_look E = some (c', E) → rk_o c' ≠ r → G (m + 1) E = some (0, E))
    (hG3 : ∀ (m : Nat) (E : td_D) (c' : Int), E 1 20 < 0 → F_X12_look E = some (c', E) → rk_o c' = r → G (m + 1) E = td_b (g (td_upd E 1 19 (tv_w (E 1 19 + 1)))) fun _ E5 => td_b (F_X12_addStep c' 0 E5) fun _ E7 => G m E7)
    (r0 : 0 ≤ r) (r4 : r ≤ 4) (r2 : r ≠ 2) : jl_o q o (fun D => B_X9_readRank rc q r o D) (fun E => td_b (g E) fun _ E1 => G tf_N E1) := by
  intro D E hi hs hl ho
  obtain ⟨x, y, D1, E1, t1, t2, t3⟩ := H D E hi hs hl ho
  simp only at t1 ⊢
  unfold B_X9_readRank
  rw [if_pos (show r < 5 by omega), tw_s (a := r + 1) (by omega) (by omega), t1, tb_s, if_neg r2, t2, tb_s]
  obtain ⟨⟨i1, i2, i3, i4⟩, -, -, -⟩ := id hi
  have d1 : 0 ≤ D1 10 2 := by
    rcases t3 with ⟨-, l, hw⟩ | hb
    · exact hw.1.1.1.1
    · have := hb.2.2.1
      omega
  exact j_loop hq H hG1 hG2 hG3 r0 r4 hi hs hl ho 200 tf_N tf_N 0 D1 E1 t3 (by omega) (by unfold tf_N; omega) (by unfold tf_N; omega) (by omega) d1
