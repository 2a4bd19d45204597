theorem jw_par {q l : Nat} {D E D2 E2 D3 E3 D4 E4 : td_D} (hi : ji_o q D E) (h : jk_o q D E D2 E2 0) (h1 : jw_o q D2 E2 D3 E3 l) (h2 : jk_o q D3 E3 D4 E4 0) : jw_o q D E D4 E4 l := by
  obtain ⟨h1, hl, hs⟩ := h1
  have h3 := jk_t h (jk_t h1 h2)
  have hs1 := jw_keep h.1 h1 hs h2
  obtain ⟨-, -, ⟨i8, i9⟩, -⟩ := hi
  obtain ⟨-, -, -, a4, a5, a6, -, -⟩ := h
  obtain ⟨-, -, -, d4, d5, d6, -, -⟩ := h2
  rw [show 0 + (l + 0) = l by omega] at h3
  rw [show (D2 q 3).toNat = (D q 3).toNat by omega, show (E2 1 22).toNat = (E 1 22).toNat by omega] at hs1
  exact ⟨h3, by omega, hs1⟩
/-- no digit where a number should be -/
theorem fm_fig0 {m : Nat} {c' : Int} {E : td_D} (h : F_X12_look E = some (c', E)) (h2 : ¬ (48 ≤ c' ∧ c' ≤ 57)) (h3 : E 1 20 < 0) (h4 : 0 ≤ E 1 22) (h5 : E 1 22 < 130) : F_X12_figure_4 (m + 1) 0 0 E = some (0, am_o 1 0 (td_upd E 1 20 (E 1 19))) := by
  have e : td_upd E 1 20 (E 1 19) 1 22 = E 1 22 := by rw [tu_at, tu_ne (by decide)]
  unfold F_X12_figure_4 F_X12_figure_52
  simp only [h, tb_s, fm_in57, tf_f h2, fm_wrong1 h3, fm_lst (c := 1) (v := 0) (E := td_upd E 1 20 (E 1 19)) (by omega) (by omega) (by decide) (by decide), if_true]
  rfl
/-- ! and - -/
theorem j_un {q : Nat} {o c : Int} {rc : Nat → Nat → Int → Int → td_D → Option (Int × td_D)} {rm : Nat → td_D → Option (Int × td_D)} {D E : td_D} (hq : q = 12 ∨ q = 16) (o0 : 0 ≤ o) (o6 : o < 6) (H : jl_o q (o + 1) (fun D => rc 1 q (o + 1) 0 D) (fun E => rm 5 E)) (hi : ji_o q D E) (hs : D q 3 ≤ D 10 2) (hl : E 1 22 ≤ D 10 2) (ho : E 1 21 = o) (hn : D 10 2 < D 10 1) (hc : c = 33 ∨ c = 45) : ∃ (r r' : Int) (D' E' : td_D), F_X9_readOperand_77 rc q o c D = some (r, D') ∧ F_X12_operand_46 rm c E = some (r', E') ∧ jq_o q D E D' E' := by
  obtain ⟨⟨i1, i2, i3, i4⟩, ⟨i5, i6, i7⟩, ⟨i8, i9⟩, i10⟩ := id hi
  have k := jk_go hq (jk_op (v := o + 1) (jk_0 hi)) hn
  have e21 : td_upd E 1 21 (o + 1) 1 19 = E 1 19 := by rw [tu_at, tu_ne (by decide)]
  have a2 : td_upd D 10 2 (D 10 2 + 1) 10 2 = D 10 2 + 1 := by rw [tu_at, tu_same]
  have kq := k.2.2.2.2.1
  have kl := k.2.2.2.2.2.1
  have kn := jk_n k
  generalize hD2 : td_upd D 10 2 (D 10 2 + 1) = D2 at *
  rw [e21] at k kl
  generalize hE2 : td_upd (td_upd E 1 21 (o + 1)) 1 19 (E 1 19 + 1) = E2 at *
  have o2 : E2 1 21 = o + 1 := by rw [← hE2, tu_at, tu_ne (by decide), tu_at, tu_same]
  obtain ⟨r, r', D3, E3, x1, x2, x3⟩ := H D2 E2 k.1 (by omega) (by omega) o2
  simp only at x1 x2
  have p3 : 0 ≤ D3 q 3 ∧ 0 ≤ E3 1 22 ∧ E3 1 22 < 130 := by
    rcases x3 with ⟨-, l, ⟨⟨⟨⟨j1, j2, j3, j4⟩, -, ⟨j8, j9⟩, -⟩, -, -, -, j5, j6, -, -⟩, j7, -⟩⟩ | ⟨-, -, b1, b2, -, -, -, b6, b7, b8⟩
    · omega
    · omega
  have e3 : ∀ v : Int, td_upd E3 1 21 v 1 22 = E3 1 22 := fun v => by rw [tu_at, tu_ne (by decide)]
  have fin : ∀ (c c' : Int), p_step c 0 c' 0 → (c' = 3 ∨ c' = 4) → jq_o q D E (ad_o q c 0 D3) (am_o c' 0 (td_upd E3 1 21 (tv_w (E3 1 21 - 1)))) := by
    intro c c' ps hc'
    rcases x3 with ⟨y, l, jw⟩ | jb
    · refine Or.inl ⟨?_, l + 1, jw_u hq hi k (by omega) (jw_op jw) ?_ ps hc'⟩
      · rw [(@am_at c' 0 _).2.2, tu_ne (by decide), tu_at, tu_same, y, o2, ho, tw_s (by omega) (by omega)]
        omega
      · obtain ⟨⟨⟨⟨j1, j2, j3, j4⟩, -, -, -⟩, -, -, -, j5, -, -, -⟩, j7, -⟩ := jw
        omega
    · exact Or.inr (jb_ad hq k (by omega) (jb_op jb))
  unfold F_X9_readOperand_77 F_X12_operand_46 F_X12_opens
  rw [tb_l, tw_s (a := D 10 2 + 1) (by omega) (by omega), tw_s (a := o + 1) (by omega) (by omega), hD2, x1, tb_s, ho, if_neg (show ¬ o = 6 by omega), tb_l, tb_l, tw_s (a := o + 1) (by omega) (by omega), e21, tw_s (a := E 1 19 + 1) (by omega) (by omega), hE2, tb_s, if_neg (show ¬ (1 : Int) = 0 by decide), x2, tb_s, tb_l]
  rcases hc with rfl | rfl
  · rw [if_pos rfl, if_pos rfl, fe_lst hq p3.1, tb_s, fm_lst (by rw [e3]; exact p3.2.1) (by rw [e3]; exact p3.2.2) (by decide) (by decide), tb_s]
    exact ⟨_, _, _, _, rfl, rfl, fin 4 3 (Or.inr (Or.inr (Or.inr (Or.inl ⟨rfl, rfl⟩)))) (Or.inl rfl)⟩
  · rw [if_neg (by decide), if_neg (by decide), fe_lst hq p3.1, tb_s, fm_lst (by rw [e3]; exact p3.2.1) (by rw [e3]; exact p3.2.2) (by decide) (by decide), tb_s]
    exact ⟨_, _, _, _, rfl, rfl, fin 3 4 (Or.inr (Or.inr (Or.inl ⟨rfl, rfl⟩))) (Or.inr rfl)⟩
/-- an operand -/
theorem j_oper {q : Nat} {o : Int} {rc : Nat → Nat → Int → Int → td_D → Option (Int × td_D)} {rm : Nat → td_D → Option (Int × td_D)} (hq : q = 12 ∨ q = 16) (o0 : 0 ≤ o) (o6 : o ≤ 6) (H : o < 6 → jl_o q (o + 1) (fun D => rc 1 q (o + 1) 0 D) (fun E => rm 5 E)) (H0 : o < 6 → jl_o q (o + 1) (fun D => rc 0 q 0 (o + 1) D) (fun E => rm 0 E)) : jl_o q o (fun D => B_X9_readOperand rc q o D) (fun E => B_X12_operand rm E) := by
  intro D E hi hs hl ho
  simp only
  obtain ⟨⟨i1, i2, i3, i4⟩, ⟨i5, i6, i7⟩, ⟨i8, i9⟩, i10⟩ := id hi
  obtain ⟨c, c', s1, s2, s3, s4⟩ := jc_sign hi
  have W : ∃ (r r' : Int) (D' E' : td_D), some ((0 : Int), td_upd D 10 3 1) = some (r, D') ∧ some ((0 : Int), td_upd E 1 20 (E 1 19)) = some (r', E') ∧ jq_o q D E D' E' := ⟨_, _, _, _, rfl, rfl, Or.inr (jb_0 hq hi)⟩
  have opn6 : o = 6 → ∀ v : Int, F_X12_operand_46 rm v E = some (0, td_upd E 1 20 (E 1 19)) := fun z v => by
    unfold F_X12_operand_46 F_X12_opens
    rw [ho, if_pos z, fm_wrong1 (by omega), tb_s, tb_s, if_pos rfl]
  have FIG : ¬ (48 ≤ c' ∧ c' ≤ 57) → ∃ (r r' : Int) (D' E' : td_D), some ((0 : Int), td_upd D 10 3 1) = some (r, D') ∧ (td_b (F_X12_figure E) fun _ D25 => some (0, D25)) = some (r', E') ∧ jq_o q D E D' E' := fun nd => by
    unfold F_X12_figure
    rw [show tf_N = 4999 + 1 by rfl, fm_fig0 s2 nd (by omega) i9 (by omega), tb_s]
    refine ⟨_, _, _, _, rfl, rfl, Or.inr (jb_am (jb_0 hq hi) ?_)⟩
    rw [tu_at, tu_ne (by decide), tu_at, tu_ne (by decide)]
    omega
  unfold B_X9_readOperand B_X12_operand
  simp only [s1, s2, tb_s, fe_nameOf, fm_nameOf, fe_isDigit, nn_s s3]
  rcases @nn_c c with ⟨n1, n2, n3, n4, n5, n6, n7⟩ | ⟨n1, n2, n3, n4⟩
  · rw [n1, if_pos (show (-1 : Int) < 0 by decide), if_pos (show (-1 : Int) < 0 by decide)]
    by_cases dg : 48 ≤ c ∧ c ≤ 57
    · have cc : c' = c := by unfold cr_o at s3; omega
      subst cc
      obtain ⟨D', E', y1, y2, y3⟩ := j_num hq hi hs hl tf_N 0 0 D E (by omega) (by unfold tf_N; omega) (by omega) (by omega) (jk_0 hi) (by omega) rfl (fun _ => by omega)
      rw [tf_t dg, if_neg (show ¬ (1 : Int) = 0 by decide), if_neg (show ¬ c' = 33 by omega), if_neg (show ¬ c' = 45 by omega), if_neg (show ¬ c' = 40 by omega)]
      unfold F_X9_readNumber F_X12_figure
      simp only [Int.ofNat_zero, Int.natCast_zero] at y1 y2
      rw [y1, y2, tb_s, tb_s]
      exact ⟨_, _, _, _, rfl, rfl, y3⟩
    · have nd : ¬ (48 ≤ c' ∧ c' ≤ 57) := by unfold cr_o at s3; omega
      rw [tf_f dg, if_pos rfl]
      by_cases z33 : c = 33
      · have cc : c' = c := by unfold cr_o at s3; omega
        subst cc
        rw [if_pos z33, if_pos z33]
        by_cases z : o < 6
        · rw [if_pos z]
          exact j_un hq o0 z (H z) hi hs hl ho (by omega) (Or.inl z33)
        · rw [if_neg z, opn6 (by omega), tb_l]
          exact W
      · have y33 : ¬ c' = 33 := by unfold cr_o at s3; omega
        rw [if_neg z33, if_neg y33]
        by_cases z45 : c = 45
        · have cc : c' = c := by unfold cr_o at s3; omega
          subst cc
          rw [if_pos z45, if_pos z45]
          by_cases z : o < 6
          · rw [if_pos z]
            exact j_un hq o0 z (H z) hi hs hl ho (by omega) (Or.inr z45)
          · rw [if_neg z, opn6 (by omega), tb_l]
            exact W
        · have y45 : ¬ c' = 45 := by unfold cr_o at s3; omega
          rw [if_neg z45, if_neg y45]
          by_cases z40 : c = 40
          · have cc : c' = c := by unfold cr_o at s3; omega
            subst cc
            rw [if_pos z40, if_pos z40]
            by_cases z : o < 6
            · have hn : D 10 2 < D 10 1 := by omega
              rw [if_pos z]
              have k := jk_go hq (jk_op (v := o + 1) (jk_0 hi)) hn
              have e21 : td_upd E 1 21 (o + 1) 1 19 = E 1 19 := by rw [tu_at, tu_ne (by decide)]
              have a2 : td_upd D 10 2 (D 10 2 + 1) 10 2 = D 10 2 + 1 := by rw [tu_at, tu_same]
              have kq := k.2.2.2.2.1
              have kl := k.2.2.2.2.2.1
              have kn := jk_n k
              rw [e21] at k kl
              have o2 : td_upd (td_upd E 1 21 (o + 1)) 1 19 (E 1 19 + 1) 1 21 = o + 1 := by rw [tu_at, tu_ne (by decide), tu_at, tu_same]
              obtain ⟨r, r', D3, E3, x1, x2, x3⟩ := H0 z _ _ k.1 (by omega) (by omega) o2
              simp only at x1 x2
              unfold F_X12_opens
              rw [tb_l, tw_s (a := D 10 2 + 1) (by omega) (by omega), tw_s (a := o + 1) (by omega) (by omega), x1, tb_s, ho, if_neg (show ¬ o = 6 by omega), tb_l, tb_l, tw_s (a := o + 1) (by omega) (by omega), e21, tw_s (a := E 1 19 + 1) (by omega) (by omega), tb_s, if_neg (show ¬ (1 : Int) = 0 by decide), x2, tb_s]
              unfold F_X9_readClosing
              rcases x3 with ⟨y, l, jw⟩ | jb
              · have ji3 := jw.1.1
                obtain ⟨⟨j1, j2, j3, j4⟩, ⟨j5, j6, j7⟩, ⟨j8, j9⟩, j10⟩ := id ji3
                obtain ⟨d, d', t1, t2, t3, t4⟩ := jc_sign ji3
                rw [if_pos j4, t1, tb_s, if_pos (show E3 1 20 < 0 by omega), t2, tb_s]
                by_cases z41 : d = 41
                · have y41 : d' = 41 := by unfold cr_o at t3; omega
                  rw [if_pos z41, if_pos y41, tb_l, tb_s, tb_l, tb_l, tw_s (a := D3 10 2 + 1) (by omega) (by omega), tw_s (a := E3 1 19 + 1) (by omega) (by omega)]
                  refine ⟨_, _, _, _, rfl, rfl, Or.inl ⟨?_, l, jw_par hi k jw (jk_op (jk_go hq (jk_0 ji3) (by omega)))⟩⟩
                  rw [tu_at, tu_same, tu_at, tu_ne (by decide), y, o2, ho, tw_s (by omega) (by omega)]
                  omega
                · have y41 : ¬ d' = 41 := by unfold cr_o at t3; omega
                  rw [if_neg z41, if_neg y41, tb_l, tb_s, fm_wrong1 (by omega), tb_s]
                  have k3 := jk_t k jw.1
                  have hl3 := jw.2.1
                  exact ⟨_, _, _, _, rfl, rfl, Or.inr (jb_pre hq k3 (by omega) (jb_0 hq ji3))⟩
              · have f20 : ¬ E3 1 20 < 0 := by
                  obtain ⟨-, -, b1, b2, b3, b4, -⟩ := jb
                  omega
                have fb : jq_o q D E (td_upd D3 10 3 1) E3 := Or.inr (jb_w hq (jb_pre hq k (by omega) jb))
                rw [if_neg f20]
                rcases jb_sign hq (by omega) (by omega) jb with w | ⟨w, d, t1, t2, t3, t4⟩
                · rw [if_neg (show ¬ D3 10 3 = 0 by omega), tb_l, tb_s]
                  exact ⟨_, _, _, _, rfl, rfl, fb⟩
                · rw [if_pos w, t1, tb_s, if_neg (show ¬ d = 41 by omega), tb_l, tb_s]
                  exact ⟨_, _, _, _, rfl, rfl, fb⟩
            · rw [if_neg z, tb_l]
              unfold F_X12_opens
              rw [ho, if_pos (show o = 6 by omega), fm_wrong1 (by omega), tb_s, tb_s, if_pos rfl]
              exact W
          · have y40 : ¬ c' = 40 := by unfold cr_o at s3; omega
            rw [if_neg z40, if_neg y40, tb_l, ite_self]
            exact FIG nd
  · have cc : c' = c := by unfold cr_o at s3; omega
    subst cc
    have k := jk_go hq (jk_0 hi) (by omega)
    have kq := k.2.2.2.2.1
    have kl := k.2.2.2.2.2.1
    have a2 : td_upd D 10 2 (D 10 2 + 1) 10 2 = D 10 2 + 1 := by rw [tu_at, tu_same]
    have e19 : am_o 2 (nn_o c') E 1 19 = E 1 19 := by rw [(@am_at 2 (nn_o c') E).2.2, tu_ne (by decide)]
    rw [tf_f (by omega), if_pos rfl, if_neg (show ¬ nn_o c' < 0 by omega), if_neg (show ¬ nn_o c' < 0 by omega), tb_l, tw_s (a := D 10 2 + 1) (by omega) (by omega), fe_lst hq (by omega), tb_s, fm_lst i9 (by omega) (by decide) (by decide), tb_s, tb_l, e19, tw_s (a := E 1 19 + 1) (by omega) (by omega), am_sw]
    refine ⟨_, _, _, _, rfl, rfl, Or.inl ⟨?_, 1, jw_1 hq hi k (by omega) (by omega) (Or.inr (Or.inl ⟨rfl, rfl, rfl, n1, n2⟩)) (by decide)⟩⟩
    rw [(@am_at 2 _ _).2.2, tu_ne (by decide), tu_at, tu_ne (by decide)]
