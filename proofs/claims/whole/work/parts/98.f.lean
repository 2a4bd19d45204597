theorem fe_land {q : Nat} {a1 : Int} {D : td_D} (hq : q = 12 ∨ q = 16) (h : 0 ≤ a1) (h2 : a1 < 128) : ∃ (x : Int) (D' : td_D), F_X1_landHere q a1 D = some (x, D') ∧ jf_o q D D' ∧ D' 10 = D 10 ∧ (a1 < D q 3 → D' = td_upd D (q + 2) a1.toNat (D q 3)) := by
  obtain ⟨t0, t1, t2⟩ := tr_q hq
  unfold F_X1_landHere
  rw [if_neg (show ¬ a1 < 0 by omega), t1]
  by_cases z : D q 3 ≤ a1
  · rw [if_pos z]
    exact ⟨_, _, rfl, jf_0 D, rfl, fun w => by omega⟩
  · rw [if_neg z, if_pos (show 0 ≤ a1 ∧ a1 < ((128 : Nat) : Int) by omega), tb_l]
    exact ⟨_, _, rfl, ⟨fun r a b c d => tu_row d, fun j _ _ => by rw [tu_row (by omega)], fun j _ => by rw [tu_row (by omega)]⟩, tu_row (by omega), fun _ => rfl⟩
theorem j_line {q L : Nat} {D E : td_D} (hq : q = 12 ∨ q = 16) (hi : ji_o q D E) (hs : D q 3 ≤ D 10 2) (hl : E 1 22 ≤ D 10 2) (ho : E 1 21 = 0) (hL : E 16 1 = (L : Int)) (hL2 : L ≤ 60) : ∃ (x y : Int) (D' E' : td_D), F_X9_readLine q D = some (x, D') ∧ F_X12_line E = some (y, E') ∧ (jy_o q D E D' E' L ∨ jx_o q D E D' E') := by
  obtain ⟨⟨i1, i2, i3, i4⟩, ⟨i5, i6, i7⟩, ⟨i8, i9⟩, i10⟩ := id hi
  have r5 : ∀ r : Nat, r ≠ 17 → td_upd E 17 (61 + L) (E 1 22) r = E r := fun r hr => tu_row hr
  have v5 : td_upd E 17 (61 + L) (E 1 22) 17 = tv_up (E 17) (61 + L) (E 1 22) := tu_at
  have h5 : jh_o E (td_upd E 17 (61 + L) (E 1 22)) := jh_7
  have V : tv_w (61 + E 16 (Int.toNat 1)) = 61 + (L : Int) := by
    show tv_w (61 + E 16 1) = _
    rw [hL]
    exact tw_s (by omega) (by omega)
  unfold F_X9_readLine F_X12_line
  rw [V, if_pos (show 0 ≤ 61 + (L : Int) ∧ 61 + (L : Int) < ((122 : Nat) : Int) by omega), tb_l, tb_is i9 (by omega), show (61 + (L : Int)).toNat = 61 + L by omega]
  generalize hE5 : td_upd E 17 (61 + L) (E 1 22) = E5 at *
  have e1 : E5 1 = E 1 := r5 1 (by decide)
  have ji5 : ji_o q D E5 := ji_m hi rfl rfl i8 (r5 13 (by decide)) (fun j _ => by rw [e1])
  obtain ⟨x1, y1, D2, E7, t1, t2, t3⟩ := j_exp hq D E5 ji5 hs (by rw [e1]; exact hl) (by rw [e1]; exact ho)
  simp only at t1 t2
  rw [t1, tb_s, t2, tb_s]
  rcases t3 with ⟨h21, l1, hw⟩ | hb
  · obtain ⟨hk, hl1, hsg⟩ := hw
    have l1p := sg_0 hsg
    have ji2 := hk.1
    have n2 := jk_n hk
    obtain ⟨⟨j1, j2, j3, j4⟩, ⟨j5, j6, j7⟩, ⟨j8, j9⟩, j10⟩ := id ji2
    obtain ⟨-, f2, g2, a4, a5, a6, a7, a8⟩ := hk
    have e717 : ∀ i : Nat, E7 17 i = E5 17 i := fun i => by rw [g2.1 17 (by decide) (by decide) (by decide)]
    have e718 : ∀ i : Nat, E7 18 i = E5 18 i := fun i => by rw [g2.1 18 (by decide) (by decide) (by decide)]
    have e716 : E7 16 1 = (L : Int) := by rw [g2.1 16 (by decide) (by decide) (by decide), r5 16 (by decide), hL]
    obtain ⟨c, c', s1, s2, s3, s4⟩ := jc_sign ji2
    rw [e1] at a6
    have hb' : (E5 1 22).toNat = (E 1 22).toNat := by rw [e1]
    rw [hb'] at hsg
    rw [if_pos j4, s1, tb_s, if_neg (show ¬ 0 ≤ E7 1 20 by omega), s2, tb_s]
    by_cases z : c = 63
    · have z' : c' = 63 := by unfold cr_o at s3; omega
      have hn : D2 10 2 < D2 10 1 := by omega
      have k := jk_go hq (jk_0 ji2) hn
      have b2 : td_upd D2 10 2 (D2 10 2 + 1) 10 2 = D2 10 2 + 1 := by rw [tu_at, tu_same]
      have c2 : ∀ r : Nat, r ≠ 10 → td_upd D2 10 2 (D2 10 2 + 1) r = D2 r := fun r hr => tu_row hr
      have c3 : ∀ r : Nat, r ≠ 1 → td_upd E7 1 19 (E7 1 19 + 1) r = E7 r := fun r hr => tu_row hr
      have c4 : ∀ j : Nat, j ≠ 19 → td_upd E7 1 19 (E7 1 19 + 1) 1 j = E7 1 j := fun j hj => by rw [tu_at, tu_ne hj]
      rw [if_pos z, if_pos z', tb_l, tb_l, tw_s (a := D2 10 2 + 1) (by omega) (by omega), tw_s (a := E7 1 19 + 1) (by omega) (by omega)]
      have n5 := jk_n k
      have kj := k.2.1
      have kg := k.2.2.1
      have kji := k.1
      generalize td_upd D2 10 2 (D2 10 2 + 1) = D5 at *
      generalize td_upd E7 1 19 (E7 1 19 + 1) = E10 at *
      have d53 : D5 q 3 = D2 q 3 := by rw [c2 q (by omega)]
      have e22 : E10 1 22 = E7 1 22 := c4 22 (by decide)
      rw [fe_lst hq (by omega), tb_s, tb_l, tb_is (by omega) (by omega)]
      obtain ⟨w1, w2, w3⟩ := ad_at (c := 6) (v := 0) (D := D5) (q := q) (by omega) (by omega)
      obtain ⟨w4, w5⟩ := @ad_10 q 6 0 D5 hq
      have jf7 : jf_o q D5 (ad_o q 6 0 D5) := jf_ad hq
      have r11 : ∀ r : Nat, r ≠ 17 → td_upd E10 17 (61 + L) (E10 1 22) r = E10 r := fun r hr => tu_row hr
      have v11 : td_upd E10 17 (61 + L) (E10 1 22) 17 = tv_up (E10 17) (61 + L) (E10 1 22) := tu_at
      have h11 : jh_o E10 (td_upd E10 17 (61 + L) (E10 1 22)) := jh_7
      generalize ad_o q 6 0 D5 = D7 at *
      generalize td_upd E10 17 (61 + L) (E10 1 22) = E11 at *
      have e11 : E11 1 = E10 1 := r11 1 (by decide)
      have ji11 : ji_o q D7 E11 := ji_m kji w4 w5 (by omega) (r11 13 (by decide)) (fun j _ => by rw [e11])
      have z2 : D7 10 2 = D2 10 2 + 1 := by rw [w4]; exact b2
      have z1 : D7 10 1 = D 10 1 := by rw [w4, n5, n2]
      obtain ⟨x2, y2, D9, E13, t4, t5, t6⟩ := j_exp hq D7 E11 ji11 (by omega) (by rw [e11]; omega) (by rw [e11, c4 21 (by decide), h21, e1]; exact ho)
      simp only at t4 t5
      have jfA : jf_o q D D7 := jf_t f2 (jf_t kj jf7)
      have jhA : jh_o E E11 := jh_t h5 (jh_t (jh_g g2) (jh_t (jh_g kg) h11))
      rw [t4, tb_s, t5, tb_s]
      rcases t6 with ⟨h21', l2, hw'⟩ | hb
      · obtain ⟨hk', hl2, hsg'⟩ := hw'
        have l2p := sg_0 hsg'
        have ji9 := hk'.1
        have n9 := jk_n hk'
        obtain ⟨⟨p1, p2, p3, p4⟩, ⟨p5, p6, p7⟩, ⟨p8, p9⟩, p10⟩ := id ji9
        obtain ⟨-, f9, g9, m4, m5, m6, m7, m8⟩ := hk'
        rw [e11, e22] at m6
        have g17 : ∀ i : Nat, E13 17 i = E11 17 i := fun i => by rw [g9.1 17 (by decide) (by decide) (by decide)]
        have g18 : ∀ i : Nat, E13 18 i = E11 18 i := fun i => by rw [g9.1 18 (by decide) (by decide) (by decide)]
        have g16 : E13 16 1 = (L : Int) := by rw [g9.1 16 (by decide) (by decide) (by decide), r11 16 (by decide), c3 16 (by decide), e716]
        obtain ⟨u1, u2, u3⟩ := ad_at (c := 5) (v := 0) (D := D9) (q := q) (by omega) (by omega)
        obtain ⟨u4, u5⟩ := @ad_10 q 5 0 D9 hq
        have jf11 : jf_o q D9 (ad_o q 5 0 D9) := jf_ad hq
        rw [fe_lst hq (by omega), tb_s]
        obtain ⟨x3, D13, o1, o2, o3, o4⟩ := fe_land (a1 := D5 q 3) (D := ad_o q 5 0 D9) hq (by omega) (by omega)
        have o5 := o4 (by omega)
        rw [o1, tb_s, fm_l66 hL2 p9 (by omega) (by omega) (by omega)]
        generalize ad_o q 5 0 D9 = D11 at *
        subst o5
        have q1 : td_upd D11 (q + 2) (D5 q 3).toNat (D11 q 3) (q + 1) = D11 (q + 1) := tu_row (by omega)
        have q2 : td_upd D11 (q + 2) (D5 q 3).toNat (D11 q 3) (q + 2) = tv_up (D11 (q + 2)) (D5 q 3).toNat (D11 q 3) := tu_at
        have q3 : td_upd D11 (q + 2) (D5 q 3).toNat (D11 q 3) q = D11 q := tu_row (by omega)
        have q11 : td_upd D11 (q + 2) (D5 q 3).toNat (D11 q 3) 11 = D11 11 := tu_row (by omega)
        have jh13 : jh_o E13 (lz_o L E13) := jh_z
        refine ⟨_, _, _, _, rfl, rfl, Or.inl ⟨?_, ?_, ?_, ?_, ?_, ?_, ?_, ?_, fun i hh => ?_, fun i hh => ?_, fun i hh => ?_, (D q 3).toNat, (E 1 22).toNat, (E 1 22).toNat + l1, (E 1 22).toNat + l1 + l2, (D q 3).toNat + l1 + l2 + 2, ?_, ?_, ?_, ?_, ?_, ?_, ?_, ?_, Or.inr ⟨?_, ?_, ?_, ?_, ?_, ?_, ?_⟩⟩⟩
        · exact ji_m ji9 (o3.trans u4) (q11.trans u5) (by rw [q3]; omega) (lz_r (by decide) (by decide)) (fun j _ => by rw [lz_r (by decide) (by decide)])
        · exact jf_t jfA (jf_t f9 (jf_t jf11 o2))
        · exact jh_t jhA (jh_t (jh_g g9) jh13)
        · rw [lz_r (by decide) (by decide), h21', e11, c4 21 (by decide), h21, e1]; exact ho
        · unfold lz_o
          rw [tu_at, tu_same, g16]
        · rw [o3, u4]; omega
        · rw [o3, u4, q3]; omega
        · rw [o3, u4, lz_r (by decide) (by decide)]; omega
        · rw [q1, q2, u1, u2, tu_ne (by omega), tu_ne (by omega), tu_ne (by omega), (m7 i (by omega)).1, (m7 i (by omega)).2, w1, w2, tu_ne (by omega), tu_ne (by omega), c2 _ (by omega), c2 _ (by omega)]
          exact a7 i hh
        · rw [lz_r (by decide) (by decide), lz_r (by decide) (by decide), (m8 i (by rw [e11]; omega)).1, (m8 i (by rw [e11]; omega)).2, r11 14 (by decide), r11 15 (by decide), c3 14 (by decide), c3 15 (by decide), (a8 i (by rw [e1]; exact hh)).1, (a8 i (by rw [e1]; exact hh)).2, r5 14 (by decide), r5 15 (by decide)]
          exact ⟨rfl, rfl⟩
        · unfold lz_o
          rw [tu_row (by decide), tu_row (by decide), tu_row (by decide), tu_at, tu_ne (by omega), g17, g18, v11, tu_ne (by omega), c3 17 (by decide), e717, v5, tu_ne (by omega), r11 18 (by decide), c3 18 (by decide), e718, r5 18 (by decide)]
          exact ⟨rfl, rfl⟩
        · omega
        · omega
        · unfold lz_o
          rw [tu_row (by decide), tu_row (by decide), g17, v11, tu_same]; omega
        · unfold lz_o
          rw [tu_row (by decide), tu_at, tu_same]; omega
        · rw [lz_r (by decide) (by decide)]; omega
        · rw [q3]; omega
        · omega
        · omega
        · omega
        · rw [show (E 1 22).toNat + l1 - (E 1 22).toNat = l1 by omega]
          refine sg_c hsg (fun k hk => ?_) (fun k hk => ?_)
          · rw [q1, q2, u1, u2, tu_ne (by omega), tu_ne (by omega), tu_ne (by omega), (m7 _ (by omega)).1, (m7 _ (by omega)).2, w1, w2, tu_ne (by omega), tu_ne (by omega), c2 _ (by omega), c2 _ (by omega)]
            exact ⟨rfl, rfl⟩
          · rw [lz_r (by decide) (by decide), lz_r (by decide) (by decide), (m8 _ (by rw [e11]; omega)).1, (m8 _ (by rw [e11]; omega)).2, r11 14 (by decide), r11 15 (by decide), c3 14 (by decide), c3 15 (by decide)]
            exact ⟨rfl, rfl⟩
        · rw [show (E 1 22).toNat + l1 - (E 1 22).toNat = l1 by omega, q1, u1, tu_ne (by omega), (m7 _ (by omega)).1, w1, show (D5 q 3).toNat = (D q 3).toNat + l1 by omega, tu_same]
        · rw [show (E 1 22).toNat + l1 - (E 1 22).toNat = l1 by omega, q2, show (D5 q 3).toNat = (D q 3).toNat + l1 by omega, tu_same]
          omega
        · rw [show (E 1 22).toNat + l1 - (E 1 22).toNat = l1 by omega, show (E 1 22).toNat + l1 + l2 - ((E 1 22).toNat + l1) = l2 by omega]
          rw [show (D7 q 3).toNat = (D q 3).toNat + l1 + 1 by omega, e11, show 130 + (E10 1 22).toNat = 130 + ((E 1 22).toNat + l1) by omega] at hsg'
          refine sg_c hsg' (fun k hk => ?_) (fun k hk => ?_)
          · rw [q1, q2, u1, u2, tu_ne (by omega), tu_ne (by omega), tu_ne (by omega)]
            exact ⟨rfl, rfl⟩
          · rw [lz_r (by decide) (by decide), lz_r (by decide) (by decide)]
            exact ⟨rfl, rfl⟩
        · rw [show (E 1 22).toNat + l1 + l2 - (E 1 22).toNat = l1 + l2 by omega, q1, u1, show (D9 q 3).toNat = (D q 3).toNat + (l1 + l2) + 1 by omega, tu_same]
        · omega
      · have jx := jx_b hq jfA (by omega) jhA hb
        obtain ⟨f', g', b1, b2, b3, b4, b5, b6, b7, b8⟩ := hb
        have g16 : E13 16 1 = (L : Int) := by rw [g'.1 16 (by decide) (by decide) (by decide), r11 16 (by decide), c3 16 (by decide), e716]
        rw [e11] at b8
        obtain ⟨x3, D13, o1, o2, o3, o4⟩ := fe_land (a1 := D5 q 3) (D := ad_o q 5 0 D9) hq (by omega) (by omega)
        rw [fe_lst hq b6, tb_s, o1, tb_s, fm_l66 hL2 b7 (by clear b5; omega) (by omega) (by omega)]
        exact ⟨_, _, _, _, rfl, rfl, Or.inr (jx_m jx (jf_t (jf_ad hq) o2) jh_z (o3.trans (ad_10 hq).1) (lz_r (by decide) (by decide)))⟩
    · have z' : ¬ c' = 63 := by unfold cr_o at s3; omega
      rw [if_neg z, if_neg z', fe_lst hq j8, tb_s, fm_l66 hL2 j9 (by omega) (by omega) (by omega)]
      obtain ⟨u1, u2, u3⟩ := ad_at (c := 5) (v := 0) (D := D2) (q := q) (by omega) (by omega)
      obtain ⟨u4, u5⟩ := @ad_10 q 5 0 D2 hq
      have jf11 : jf_o q D2 (ad_o q 5 0 D2) := jf_ad hq
      generalize ad_o q 5 0 D2 = D11 at *
      have jh13 : jh_o E7 (lz_o L E7) := jh_z
      refine ⟨_, _, _, _, rfl, rfl, Or.inl ⟨?_, ?_, ?_, ?_, ?_, ?_, ?_, ?_, fun i hh => ?_, fun i hh => ?_, fun i hh => ?_, (D q 3).toNat, (E 1 22).toNat, (E 1 22).toNat, (E 1 22).toNat + l1, (D q 3).toNat + l1 + 1, ?_, ?_, ?_, ?_, ?_, ?_, ?_, ?_, Or.inl ⟨?_, ?_, ?_, ?_⟩⟩⟩
      · exact ji_m ji2 u4 u5 (by omega) (lz_r (by decide) (by decide)) (fun j _ => by rw [lz_r (by decide) (by decide)])
      · exact jf_t f2 jf11
      · exact jh_t h5 (jh_t (jh_g g2) jh13)
      · rw [lz_r (by decide) (by decide), h21, e1]; exact ho
      · unfold lz_o
        rw [tu_at, tu_same, e716]
      · rw [u4]; omega
      · rw [u4]; omega
      · rw [u4, lz_r (by decide) (by decide)]; omega
      · rw [u1, u2, tu_ne (by omega), tu_ne (by omega)]
        exact a7 i hh
      · rw [lz_r (by decide) (by decide), lz_r (by decide) (by decide), (a8 i (by rw [e1]; exact hh)).1, (a8 i (by rw [e1]; exact hh)).2, r5 14 (by decide), r5 15 (by decide)]
        exact ⟨rfl, rfl⟩
      · unfold lz_o
        rw [tu_row (by decide), tu_row (by decide), tu_row (by decide), tu_at, tu_ne (by omega), e717, v5, tu_ne (by omega), e718, r5 18 (by decide)]
        exact ⟨rfl, rfl⟩
      · omega
      · omega
      · unfold lz_o
        rw [tu_row (by decide), tu_row (by decide), e717, v5, tu_same]; omega
      · unfold lz_o
        rw [tu_row (by decide), tu_at, tu_same]; omega
      · rw [lz_r (by decide) (by decide)]; omega
      · omega
      · omega
      · omega
      · rfl
      · rw [show (E 1 22).toNat + l1 - (E 1 22).toNat = l1 by omega]
        refine sg_c hsg (fun k hk => ?_) (fun k hk => ?_)
        · rw [u1, u2, tu_ne (by omega), tu_ne (by omega)]
          exact ⟨rfl, rfl⟩
        · rw [lz_r (by decide) (by decide), lz_r (by decide) (by decide)]
          exact ⟨rfl, rfl⟩
      · rw [show (E 1 22).toNat + l1 - (E 1 22).toNat = l1 by omega, u1, show (D2 q 3).toNat = (D q 3).toNat + l1 by omega, tu_same]
      · omega
  · have jx := jx_b hq (jf_0 D) (Int.le_refl _) h5 hb
    obtain ⟨f', g', b1, b2, b3, b4, b5, b6, b7, b8⟩ := id hb
    have g16 : E7 16 1 = (L : Int) := by rw [g'.1 16 (by decide) (by decide) (by decide), r5 16 (by decide), hL]
    rw [e1] at b8
    rw [if_pos (show 0 ≤ E7 1 20 by omega), fm_l66 hL2 b7 (by clear b5; omega) (by omega) (by omega)]
    have fin := jx_m jx (jf_ad hq (c := 5) (v := 0)) (jh_z (L := L)) (ad_10 hq).1 (lz_r (by decide) (by decide))
    rcases jb_sign hq i3 i1 hb with w | ⟨w, d, s1, s2, s3, s4⟩
    · rw [if_neg (show ¬ D2 10 3 = 0 by omega), fe_lst hq b6, tb_s]
      exact ⟨_, _, _, _, rfl, rfl, Or.inr fin⟩
    · rw [if_pos w, s1, tb_s, if_neg (show ¬ d = 63 by omega), fe_lst hq b6, tb_s]
      exact ⟨_, _, _, _, rfl, rfl, Or.inr fin⟩
