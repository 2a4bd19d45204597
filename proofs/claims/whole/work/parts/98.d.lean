theorem fe_rrend {q m : Nat} {r o v4 v5 : Int} {rc : Nat → Nat → Int → Int → td_D → Option (Int × td_D)} {D : td_D} (h : v4 ≤ v5) : F_X9_readRank_37 rc (m + 1) q r o v4 v5 D = some (0, D) := by
  unfold F_X9_readRank_37
  rw [if_pos h]
theorem j_cmp {q m : Nat} {o : Int} {rc : Nat → Nat → Int → Int → td_D → Option (Int × td_D)} {rm : Nat → td_D → Option (Int × td_D)} (hq : q = 12 ∨ q = 16) (H : jl_o q o (fun D => rc 0 q (2 + 1) o D) (fun E => rm 3 E)) {D E D1 E1 : td_D} (hi : ji_o q D E) (hs : D q 3 ≤ D 10 2) (hl : E 1 22 ≤ D 10 2) (ho : E 1 21 = o) (h : jq_o q D E D1 E1) : ∃ (x y : Int) (D' E' : td_D), F_X9_readRank_37 rc (m + 1 + 1) q 2 o 1 0 D1 = some (x, D') ∧ (td_b (F_X12_look E1) fun r8 D9 => if 0 ≤ D9 1 20 then some (0, D9) else if r8 = 60 then F_X12_compared_35 rm r8 D9 else if r8 = 61 then F_X12_compared_35 rm r8 D9 else if r8 = 62 then F_X12_compared_35 rm r8 D9 else some (0, D9)) = some (y, E') ∧ jq_o q D E D' E' := by
  obtain ⟨⟨i1, i2, i3, i4⟩, ⟨i5, i6, i7⟩, ⟨i8, i9⟩, i10⟩ := id hi
  unfold F_X9_readRank_37
  rw [if_neg (show ¬ (1 : Int) ≤ 0 by decide)]
  rcases id h with ⟨h21, l, hw⟩ | hb
  · have n := jk_n hw.1
    have hji := hw.1.1
    obtain ⟨⟨j1, j2, j3, j4⟩, ⟨j5, j6, j7⟩, ⟨j8, j9⟩, j10⟩ := id hji
    obtain ⟨c, c', s1, s2, s3, s4⟩ := jc_sign hji
    have rc1 := rk_c c
    rw [if_pos j4, s1, tb_s, fe_rankOf, tb_s, s2, tb_s, if_neg (show ¬ 0 ≤ E1 1 20 by omega)]
    by_cases z : rk_o c = 2
    · have hn : D1 10 2 < D1 10 1 := by omega
      have cc : c' = c := by unfold cr_o at s3; omega
      subst cc
      obtain ⟨x, y, D3, E3, t1, t2, t3, t4, t5, t6⟩ := j_sgn hq H hi hs hl ho hw h21 hn (by decide) z
      have C : F_X12_compared_35 rm c' E1 = some (0, am_o c' 0 E3) := by
        unfold F_X12_compared_35
        rw [tb_l, t2, tb_s, t4, tb_s]
      rw [if_pos z, s1, tb_s, tb_l, tw_s (a := 2 + 1) (by omega) (by omega), t1, tb_s, t3, tb_s, tw_s (a := 0 + 1) (by omega) (by omega), fe_rrend (by decide), C]
      refine ⟨_, 0, _, am_o c' 0 E3, rfl, ?_, t5⟩
      by_cases z60 : c' = 60
      · rw [if_pos z60]
      · by_cases z61 : c' = 61
        · rw [if_neg z60, if_pos z61]
        · rw [if_neg z60, if_neg z61, if_pos (show c' = 62 by omega)]
    · rw [if_neg z, if_neg (show ¬ c' = 60 by unfold cr_o at s3; omega), if_neg (show ¬ c' = 61 by unfold cr_o at s3; omega), if_neg (show ¬ c' = 62 by unfold cr_o at s3; omega)]
      exact ⟨_, _, _, _, rfl, rfl, h⟩
  · obtain ⟨f', g', b1, b2, b3, b4, -⟩ := id hb
    obtain ⟨d', s2⟩ := fm_sees (E := E1) (by omega) (by rw [g'.2.1 18 (by decide) (by decide) (by decide) (by decide)]; omega)
    rw [s2, tb_s, if_pos (show 0 ≤ E1 1 20 by omega)]
    rcases jb_sign hq i3 i1 hb with w | ⟨w, d, t1, t2, t3, t4⟩
    · rw [if_neg (show ¬ D1 10 3 = 0 by omega)]
      exact ⟨_, _, _, _, rfl, rfl, h⟩
    · have rd := rk_c d
      rw [if_pos w, t1, tb_s, fe_rankOf, tb_s, if_neg (show ¬ rk_o d = 2 by omega)]
      exact ⟨_, _, _, _, rfl, rfl, h⟩
theorem j_lev2 {q : Nat} {o : Int} {rc : Nat → Nat → Int → Int → td_D → Option (Int × td_D)} {rm : Nat → td_D → Option (Int × td_D)} (hq : q = 12 ∨ q = 16) (H : jl_o q o (fun D => rc 0 q (2 + 1) o D) (fun E => rm 3 E)) : jl_o q o (fun D => B_X9_readRank rc q 2 o D) (fun E => B_X12_compared rm E) := by
  intro D E hi hs hl ho
  obtain ⟨x, y, D1, E1, t1, t2, t3⟩ := H D E hi hs hl ho
  simp only at t1 t2 ⊢
  unfold B_X9_readRank B_X12_compared
  rw [if_pos (show (2 : Int) < 5 by decide), tw_s (a := 2 + 1) (by omega) (by omega), t1, tb_s, if_pos rfl, t2, tb_s, show tf_N = 4998 + 1 + 1 by rfl]
  exact j_cmp hq H hi hs hl ho t3
theorem j_lev0 {q : Nat} {o : Int} {rc : Nat → Nat → Int → Int → td_D → Option (Int × td_D)} {rm : Nat → td_D → Option (Int × td_D)} (hq : q = 12 ∨ q = 16) (H : jl_o q o (fun D => rc 0 q (0 + 1) o D) (fun E => rm 1 E)) : jl_o q o (fun D => B_X9_readRank rc q 0 o D) (fun E => B_X12_either rm E) := by
  refine j_lev (G := F_X12_either_4 rm) (g := fun E => rm 1 E) hq H (fun m E h => ?_) (fun m E c' h s z => ?_) (fun m E c' h s z => ?_) (by decide) (by decide) (by decide)
  · unfold F_X12_either_4
    rw [if_pos h]
  · have rc1 := rk_c c'
    unfold F_X12_either_4
    rw [if_neg (by omega), s, tb_s, if_neg (by omega)]
  · have rc1 := rk_c c'
    have e : c' = 124 := by omega
    subst e
    conv =>
      lhs
      unfold F_X12_either_4
    rw [if_neg (by omega), s, tb_s, if_pos rfl, tb_l]
theorem j_lev1 {q : Nat} {o : Int} {rc : Nat → Nat → Int → Int → td_D → Option (Int × td_D)} {rm : Nat → td_D → Option (Int × td_D)} (hq : q = 12 ∨ q = 16) (H : jl_o q o (fun D => rc 0 q (1 + 1) o D) (fun E => rm 2 E)) : jl_o q o (fun D => B_X9_readRank rc q 1 o D) (fun E => B_X12_both rm E) := by
  refine j_lev (G := F_X12_both_4 rm) (g := fun E => rm 2 E) hq H (fun m E h => ?_) (fun m E c' h s z => ?_) (fun m E c' h s z => ?_) (by decide) (by decide) (by decide)
  · unfold F_X12_both_4
    rw [if_pos h]
  · have rc1 := rk_c c'
    unfold F_X12_both_4
    rw [if_neg (by omega), s, tb_s, if_neg (by omega)]
  · have rc1 := rk_c c'
    have e : c' = 38 := by omega
    subst e
    conv =>
      lhs
      unfold F_X12_both_4
    rw [if_neg (by omega), s, tb_s, if_pos rfl, tb_l]
theorem j_lev3 {q : Nat} {o : Int} {rc : Nat → Nat → Int → Int → td_D → Option (Int × td_D)} {rm : Nat → td_D → Option (Int × td_D)} (hq : q = 12 ∨ q = 16) (H : jl_o q o (fun D => rc 0 q (3 + 1) o D) (fun E => rm 4 E)) : jl_o q o (fun D => B_X9_readRank rc q 3 o D) (fun E => B_X12_sum rm E) := by
  refine j_lev (G := F_X12_sum_4 rm) (g := fun E => rm 4 E) hq H (fun m E h => ?_) (fun m E c' h s z => ?_) (fun m E c' h s z => ?_) (by decide) (by decide) (by decide)
  · unfold F_X12_sum_4
    rw [if_pos h]
  · have rc1 := rk_c c'
    unfold F_X12_sum_4
    rw [if_neg (by omega), s, tb_s, if_neg (by omega), s, tb_s, if_neg (by omega)]
  · have rc1 := rk_c c'
    have S : F_X12_sum_29 rm (fun D => F_X12_sum_4 rm m D) E = td_b (rm 4 (td_upd E 1 19 (tv_w (E 1 19 + 1)))) fun _ E5 => td_b (F_X12_addStep c' 0 E5) fun _ E7 => F_X12_sum_4 rm m E7 := by
      unfold F_X12_sum_29
      rw [s, tb_s, tb_l]
    conv =>
      lhs
      unfold F_X12_sum_4
    rw [if_neg (by omega), s, tb_s, S]
    by_cases e : c' = 43
    · rw [if_pos e]
    · rw [if_neg e, s, tb_s, if_pos (by omega), S]
theorem j_lev4 {q : Nat} {o : Int} {rc : Nat → Nat → Int → Int → td_D → Option (Int × td_D)} {rm : Nat → td_D → Option (Int × td_D)} (hq : q = 12 ∨ q = 16) (H : jl_o q o (fun D => rc 0 q (4 + 1) o D) (fun E => rm 5 E)) : jl_o q o (fun D => B_X9_readRank rc q 4 o D) (fun E => B_X12_product rm E) := by
  refine j_lev (G := F_X12_product_4 rm) (g := fun E => rm 5 E) hq H (fun m E h => ?_) (fun m E c' h s z => ?_) (fun m E c' h s z => ?_) (by decide) (by decide) (by decide)
  · unfold F_X12_product_4
    rw [if_pos h]
  · have rc1 := rk_c c'
    unfold F_X12_product_4
    rw [if_neg (by omega), s, tb_s, if_neg (by omega), s, tb_s, if_neg (by omega), s, tb_s, if_neg (by omega)]
  · have rc1 := rk_c c'
    have S : F_X12_product_38 rm (fun D => F_X12_product_4 rm m D) E = td_b (rm 5 (td_upd E 1 19 (tv_w (E 1 19 + 1)))) fun _ E5 => td_b (F_X12_addStep c' 0 E5) fun _ E7 => F_X12_product_4 rm m E7 := by
      unfold F_X12_product_38
      rw [s, tb_s, tb_l]
    conv =>
      lhs
      unfold F_X12_product_4
    rw [if_neg (by omega), s, tb_s, S]
    by_cases e : c' = 42
    · rw [if_pos e]
    · rw [if_neg e, s, tb_s, S]
      by_cases e2 : c' = 47
      · rw [if_pos e2]
      · rw [if_neg e2, s, tb_s, if_pos (by omega), S]
theorem j_lev5 {q : Nat} {o : Int} {rc : Nat → Nat → Int → Int → td_D → Option (Int × td_D)} {g : td_D → Option (Int × td_D)} (H : jl_o q o (fun D => rc 1 q o 0 D) g) : jl_o q o (fun D => B_X9_readRank rc q 5 o D) g := by
  intro D E hi hs hl ho
  obtain ⟨x, y, D1, E1, t1, t2, t3⟩ := H D E hi hs hl ho
  simp only at t1 ⊢
  unfold B_X9_readRank
  rw [if_neg (show ¬ (5 : Int) < 5 by decide), t1, tb_s]
  exact ⟨_, _, _, _, rfl, t2, t3⟩
theorem j_ranks {q K : Nat} {o : Int} (hq : q = 12 ∨ q = 16) (H : ∀ n m : Nat, K + 1 ≤ n → K + 1 ≤ m → jl_o q o (fun D => F_tp n 1 q o 0 D) (fun E => F_mo m 5 E)) : ∀ n m : Nat, K + 7 ≤ n → K + 7 ≤ m → jl_o q o (fun D => F_tp n 0 q 0 o D) (fun E => F_mo m 0 E) := by
  have h5 : ∀ n m : Nat, K + 2 ≤ n → K + 1 ≤ m → jl_o q o (fun D => F_tp n 0 q 5 o D) (fun E => F_mo m 5 E) := fun n m hn hm => by
    obtain ⟨n, rfl⟩ : ∃ n' : Nat, n = n' + 1 := ⟨n - 1, by omega⟩
    exact j_lev5 (rc := F_tp n) (H n m (by omega) hm)
  have h4 : ∀ n m : Nat, K + 3 ≤ n → K + 2 ≤ m → jl_o q o (fun D => F_tp n 0 q 4 o D) (fun E => F_mo m 4 E) := fun n m hn hm => by
    obtain ⟨n, rfl⟩ : ∃ n' : Nat, n = n' + 1 := ⟨n - 1, by omega⟩
    obtain ⟨m, rfl⟩ : ∃ n' : Nat, m = n' + 1 := ⟨m - 1, by omega⟩
    exact j_lev4 (rc := F_tp n) (rm := F_mo m) hq (h5 n m (by omega) (by omega))
  have h3 : ∀ n m : Nat, K + 4 ≤ n → K + 3 ≤ m → jl_o q o (fun D => F_tp n 0 q 3 o D) (fun E => F_mo m 3 E) := fun n m hn hm => by
    obtain ⟨n, rfl⟩ : ∃ n' : Nat, n = n' + 1 := ⟨n - 1, by omega⟩
    obtain ⟨m, rfl⟩ : ∃ n' : Nat, m = n' + 1 := ⟨m - 1, by omega⟩
    exact j_lev3 (rc := F_tp n) (rm := F_mo m) hq (h4 n m (by omega) (by omega))
  have h2 : ∀ n m : Nat, K + 5 ≤ n → K + 4 ≤ m → jl_o q o (fun D => F_tp n 0 q 2 o D) (fun E => F_mo m 2 E) := fun n m hn hm => by
    obtain ⟨n, rfl⟩ : ∃ n' : Nat, n = n' + 1 := ⟨n - 1, by omega⟩
    obtain ⟨m, rfl⟩ : ∃ n' : Nat, m = n' + 1 := ⟨m - 1, by omega⟩
    exact j_lev2 (rc := F_tp n) (rm := F_mo m) hq (h3 n m (by omega) (by omega))
  have h1 : ∀ n m : Nat, K + 6 ≤ n → K + 5 ≤ m → jl_o q o (fun D => F_tp n 0 q 1 o D) (fun E => F_mo m 1 E) := fun n m hn hm => by
    obtain ⟨n, rfl⟩ : ∃ n' : Nat, n = n' + 1 := ⟨n - 1, by omega⟩
    obtain ⟨m, rfl⟩ : ∃ n' : Nat, m = n' + 1 := ⟨m - 1, by omega⟩
    exact j_lev1 (rc := F_tp n) (rm := F_mo m) hq (h2 n m (by omega) (by omega))
  intro n m hn hm
  obtain ⟨n, rfl⟩ : ∃ n' : Nat, n = n' + 1 := ⟨n - 1, by omega⟩
  obtain ⟨m, rfl⟩ : ∃ n' : Nat, m = n' + 1 := ⟨m - 1, by omega⟩
  exact j_lev0 (rc := F_tp n) (rm := F_mo m) hq (h1 n m (by omega) (by omega))
theorem j_all {q : Nat} (hq : q = 12 ∨ q = 16) : ∀ (d : Nat) (o : Int), o + (d : Int) = 6 → 0 ≤ o → ∀ n m : Nat, 7 * d + 1 ≤ n → 7 * d + 1 ≤ m → jl_o q o (fun D => F_tp n 1 q o 0 D) (fun E => F_mo m 5 E) := by
  intro d
  induction d with
  | zero =>
    intro o od o0 n m hn hm
    obtain ⟨n, rfl⟩ : ∃ n' : Nat, n = n' + 1 := ⟨n - 1, by omega⟩
    obtain ⟨m, rfl⟩ : ∃ n' : Nat, m = n' + 1 := ⟨m - 1, by omega⟩
    exact j_oper (rc := F_tp n) (rm := F_mo m) hq o0 (by omega) (fun z => by omega) (fun z => by omega)
  | succ d ih =>
    intro o od o0 n m hn hm
    obtain ⟨n, rfl⟩ : ∃ n' : Nat, n = n' + 1 := ⟨n - 1, by omega⟩
    obtain ⟨m, rfl⟩ : ∃ n' : Nat, m = n' + 1 := ⟨m - 1, by omega⟩
    have i := ih (o + 1) (by omega) (by omega)
    exact j_oper (rc := F_tp n) (rm := F_mo m) hq o0 (by omega) (fun z => i n m (by omega) (by omega)) (fun z => j_ranks (K := 7 * d) hq i n m (by omega) (by omega))
/-- one expression -/
theorem j_exp {q : Nat} (hq : q = 12 ∨ q = 16) : jl_o q 0 (fun D => F_X9_readRank q 0 0 D) (fun E => F_X12_either E) :=
  j_ranks (K := 42) hq (fun n m hn hm => j_all hq 6 0 (by decide) (by decide) n m (by omega) (by omega)) 100 100 (by decide) (by decide)
