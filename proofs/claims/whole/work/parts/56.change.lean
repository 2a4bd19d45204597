def ch_r (w : Int) : Nat := if w = 0 then 3 else if w = 1 then 6 else if w = 2 then 4 else if w = 3 then 7 else if w = 4 then 8 else if w = 5 then 9 else 2
def ch_j (w n : Int) : Nat := if w = 1 then (6 * (n / 10) + n % 10).toNat else if 6 ≤ w then (w + 3).toNat else n.toNat
def cm_r (w : Int) : Nat := if w = 0 then 2 else if w = 1 then 4 else if w = 2 then 3 else if w = 3 then 5 else if w = 4 then 6 else if w = 5 then 7 else 8
def cm_j (w n : Int) : Nat := if w = 1 then (6 * (n / 10) + n % 10).toNat else if 6 ≤ w then (w - 6).toNat else n.toNat
/-- what a change rests on -/
def rs_l (Dc Dm : td_D) : Prop := p_land (Dc 2 0) (Dc 2 1) (Dc 2 2) (Dc 3) (Dc 4) (Dc 6) (Dc 7) (Dc 8) (Dc 9) (Dm 1 1) (Dm 1 3) (Dm 1 6) (Dm 2) (Dm 3) (Dm 4) (Dm 5) (Dm 6) (Dm 7) ∧ p_set (Dc 2 9) (Dc 2 10) (Dc 2 11) (Dc 2 12) (Dm 8)
def rs_c (Dc Dm : td_D) : Prop := p_chg (Dc 2 0) (Dc 2 1) (Dc 2 2) (Dc 7) (Dc 8) (Dc 32 4) (Dc 32 5) (Dc 33) (Dc 34) (Dc 35) (Dc 36) (Dm 1 11) (Dm 1 12) (Dm 9) (Dm 10) (Dm 11) (Dm 12)
def rs_o (Dc Dm : td_D) : Prop := p_tape (Dc 10 1) (Dc 11) (Dm 1 18) (Dm 13) ∧
  p_law (Dc 1 2) (Dc 1 3) (Dc 12 3) (Dc 16 3) (Dc 13) (Dc 14) (Dc 17) (Dc 18) (Dm 1 30) (Dm 14) (Dm 15) (Dm 16) (Dm 17) (Dm 18) ∧
  p_led (Dc 42) (Dm 31) ∧ p_img (Dc 2 0) (Dc 2 1) (Dc 37 0) (Dc 37 1) (Dc 38) (Dc 40) (Dc 41) (Dm 1 44) (Dm 1 45) (Dm 1 46) (Dm 32) (Dm 33) (Dm 34) ∧
  p_bod (Dc 43 1) (Dc 44) (Dc 43 3) (Dc 45) (Dm 1 50) (Dm 35) (Dm 1 52) (Dm 36) ∧
  (p_shelf (Dc 43 1) 0 (Dc 47) (Dc 48) (Dm 37) (Dm 38) (Dm 39) ∧ p_shelf (Dc 43 1) 1 (Dc 49) (Dc 50) (Dm 37) (Dm 38) (Dm 39) ∧ p_shelf (Dc 43 1) 2 (Dc 51) (Dc 52) (Dm 37) (Dm 38) (Dm 39) ∧ p_shelf (Dc 43 1) 3 (Dc 53) (Dc 54) (Dm 37) (Dm 38) (Dm 39) ∧ p_shelf (Dc 43 1) 4 (Dc 55) (Dc 56) (Dm 37) (Dm 38) (Dm 39) ∧ p_shelf (Dc 43 1) 5 (Dc 57) (Dc 58) (Dm 37) (Dm 38) (Dm 39))
theorem rs_iff {Dc Dm : td_D} : lw_R Dc Dm ↔ rs_l Dc Dm ∧ rs_c Dc Dm ∧ rs_o Dc Dm := by
  unfold lw_R rs_l rs_c rs_o
  constructor
  · rintro ⟨hl, hs, ht, hw, hc, hg, hi, hb, hh⟩
    exact ⟨⟨hl, hs⟩, hc, ht, hw, hg, hi, hb, hh⟩
  · rintro ⟨⟨hl, hs⟩, hc, ht, hw, hg, hi, hb, hh⟩
    exact ⟨hl, hs, ht, hw, hc, hg, hi, hb, hh⟩
theorem fe_change {pe hi de w n x : Int} {D : td_D} (h : p_ch pe hi de w n x) (hp : pe ≤ 6) (hh : hi ≤ 5) (hd : de ≤ 10) : F_X3_change n w x D = some (0, td_upd D (ch_r w) (ch_j w n) x) := by
  unfold p_ch at h
  rcases h with ⟨rfl, h⟩ | ⟨rfl, h⟩ | ⟨rfl, h⟩ | ⟨rfl | rfl | rfl, h⟩ | ⟨rfl, h⟩ | ⟨rfl, h⟩ | ⟨rfl, h⟩ | ⟨rfl, h⟩
  · unfold F_X3_change
    rw [if_pos rfl, if_pos (by omega), td_ls]
    rfl
  · unfold F_X3_change
    rw [if_neg (by decide), if_pos rfl, tv_dv (by omega) (by omega) (by omega), tv_rme (by omega), fe_lay (by omega) (by omega) (by omega) (by omega), td_bs]
    rfl
  · unfold F_X3_change
    rw [if_neg (by decide), if_neg (by decide), if_pos rfl, if_pos (by omega), td_ls]
    rfl
  · unfold F_X3_change
    rw [if_neg (by decide), if_neg (by decide), if_neg (by decide), if_pos rfl, if_pos (by omega), td_ls]
    rfl
  · unfold F_X3_change
    rw [if_neg (by decide), if_neg (by decide), if_neg (by decide), if_neg (by decide), if_pos rfl, if_pos (by omega), td_ls]
    rfl
  · unfold F_X3_change
    rw [if_neg (by decide), if_neg (by decide), if_neg (by decide), if_neg (by decide), if_neg (by decide), if_pos rfl, if_pos (by omega), td_ls]
    rfl
  · unfold F_X3_change
    rw [if_neg (by decide), if_neg (by decide), if_neg (by decide), if_neg (by decide), if_neg (by decide), if_neg (by decide)]
    rfl
  · unfold F_X3_change
    rw [if_neg (by decide), if_neg (by decide), if_neg (by decide), if_neg (by decide), if_neg (by decide), if_neg (by decide)]
    rfl
  · unfold F_X3_change
    rw [if_neg (by decide), if_neg (by decide), if_neg (by decide), if_neg (by decide), if_neg (by decide), if_neg (by decide)]
    rfl
  · unfold F_X3_change
    rw [if_neg (by decide), if_neg (by decide), if_neg (by decide), if_neg (by decide), if_neg (by decide), if_neg (by decide)]
    rfl
theorem fm_lays {pe hi de w n x : Int} {D : td_D} (h : p_ch pe hi de w n x) (hp : pe ≤ 6) (hh : hi ≤ 5) (hd : de ≤ 10) : F_X12_lays w n x D = some (0, td_upd D (cm_r w) (cm_j w n) x) := by
  unfold p_ch at h
  rcases h with ⟨rfl, h⟩ | ⟨rfl, h⟩ | ⟨rfl, h⟩ | ⟨rfl | rfl | rfl, h⟩ | ⟨rfl, h⟩ | ⟨rfl, h⟩ | ⟨rfl, h⟩ | ⟨rfl, h⟩
  · unfold F_X12_lays
    rw [if_pos rfl, if_pos (by omega), td_ls]
    rfl
  · unfold F_X12_lays
    rw [if_neg (by decide), if_pos rfl, tv_dv (by omega) (by omega) (by omega), tv_rme (by omega), tw_s (a := 6 * (n / 10)) (by omega) (by omega), tw_s (a := 6 * (n / 10) + n % 10) (by omega) (by omega), if_pos (by omega), td_ls]
    rfl
  · unfold F_X12_lays
    rw [if_neg (by decide), if_neg (by decide), if_pos rfl, if_pos (by omega), td_ls]
    rfl
  · unfold F_X12_lays
    rw [if_neg (by decide), if_neg (by decide), if_neg (by decide), if_pos rfl, if_pos (by omega), td_ls]
    rfl
  · unfold F_X12_lays
    rw [if_neg (by decide), if_neg (by decide), if_neg (by decide), if_neg (by decide), if_pos rfl, if_pos (by omega), td_ls]
    rfl
  · unfold F_X12_lays
    rw [if_neg (by decide), if_neg (by decide), if_neg (by decide), if_neg (by decide), if_neg (by decide), if_pos rfl, if_pos (by omega), td_ls]
    rfl
  · unfold F_X12_lays
    rw [if_neg (by decide), if_neg (by decide), if_neg (by decide), if_neg (by decide), if_neg (by decide), if_neg (by decide), tw_s (by omega) (by omega), if_pos (by omega), td_ls]
    rfl
  · unfold F_X12_lays
    rw [if_neg (by decide), if_neg (by decide), if_neg (by decide), if_neg (by decide), if_neg (by decide), if_neg (by decide), tw_s (by omega) (by omega), if_pos (by omega), td_ls]
    rfl
  · unfold F_X12_lays
    rw [if_neg (by decide), if_neg (by decide), if_neg (by decide), if_neg (by decide), if_neg (by decide), if_neg (by decide), tw_s (by omega) (by omega), if_pos (by omega), td_ls]
    rfl
  · unfold F_X12_lays
    rw [if_neg (by decide), if_neg (by decide), if_neg (by decide), if_neg (by decide), if_neg (by decide), if_neg (by decide), tw_s (by omega) (by omega), if_pos (by omega), td_ls]
    rfl
theorem rs_l_ch {w n x : Int} {Dc Dm : td_D} (hl : rs_l Dc Dm) (h : p_ch (Dc 2 0) (Dc 2 1) (Dc 2 2) w n x) (hle : ∀ i : Nat, i < 10 → (td_upd Dc (ch_r w) (ch_j w n) x) 7 i ≤ (td_upd Dc (ch_r w) (ch_j w n) x) 8 i) : rs_l (td_upd Dc (ch_r w) (ch_j w n) x) (td_upd Dm (cm_r w) (cm_j w n) x) := by
  obtain ⟨⟨l1, l2, l3, lon, lce, lsh, lz, lnd, lmo, lwo, lnm⟩, s1, s2, s3, s4⟩ := hl
  unfold p_ch at h
  unfold rs_l p_set
  rcases h with ⟨rfl, h⟩ | ⟨rfl, h⟩ | ⟨rfl, h⟩ | ⟨rfl | rfl | rfl, h⟩ | ⟨rfl, h⟩ | ⟨rfl, h⟩ | ⟨rfl, h⟩ | ⟨rfl, h⟩
  · have e1 : td_upd Dc (ch_r 0) (ch_j 0 n) x = td_upd Dc 3 n.toNat x := rfl
    have e2 : td_upd Dm (cm_r 0) (cm_j 0 n) x = td_upd Dm 2 n.toNat x := rfl
    rw [e1] at hle ⊢
    rw [e2]
    simp (disch := decide) only [tu_row, tu_at, tu_same, tu_ne] at hle ⊢
    refine ⟨⟨l1, l2, l3, up_row lon (by omega) (by omega), lce, lsh, lz, lnd, lmo, lwo, lnm⟩, s1, s2, s3, s4⟩
  · have e1 : td_upd Dc (ch_r 1) (ch_j 1 n) x = td_upd Dc 6 (6 * (n / 10) + n % 10).toNat x := rfl
    have e2 : td_upd Dm (cm_r 1) (cm_j 1 n) x = td_upd Dm 4 (6 * (n / 10) + n % 10).toNat x := rfl
    rw [e1] at hle ⊢
    rw [e2]
    simp (disch := decide) only [tu_row, tu_at, tu_same, tu_ne] at hle ⊢
    refine ⟨⟨l1, l2, l3, lon, lce, up_row lsh (by omega) (by omega), ?_, lnd, lmo, lwo, lnm⟩, s1, s2, s3, s4⟩
    intro h' p' h1 h2 h3
    unfold tv_up
    rw [if_neg (by omega)]
    exact lz h' p' h1 h2 h3
  · have e1 : td_upd Dc (ch_r 2) (ch_j 2 n) x = td_upd Dc 4 n.toNat x := rfl
    have e2 : td_upd Dm (cm_r 2) (cm_j 2 n) x = td_upd Dm 3 n.toNat x := rfl
    rw [e1] at hle ⊢
    rw [e2]
    simp (disch := decide) only [tu_row, tu_at, tu_same, tu_ne] at hle ⊢
    refine ⟨⟨l1, l2, l3, lon, up_row lce (by omega) (by omega), lsh, lz, lnd, lmo, lwo, lnm⟩, s1, s2, s3, s4⟩
  · have e1 : td_upd Dc (ch_r 3) (ch_j 3 n) x = td_upd Dc 7 n.toNat x := rfl
    have e2 : td_upd Dm (cm_r 3) (cm_j 3 n) x = td_upd Dm 5 n.toNat x := rfl
    rw [e1] at hle ⊢
    rw [e2]
    simp (disch := decide) only [tu_row, tu_at, tu_same, tu_ne] at hle ⊢
    refine ⟨⟨l1, l2, l3, lon, lce, lsh, lz, up_row lnd (by omega) (by omega), lmo, lwo, hle⟩, s1, s2, s3, s4⟩
  · have e1 : td_upd Dc (ch_r 4) (ch_j 4 n) x = td_upd Dc 8 n.toNat x := rfl
    have e2 : td_upd Dm (cm_r 4) (cm_j 4 n) x = td_upd Dm 6 n.toNat x := rfl
    rw [e1] at hle ⊢
    rw [e2]
    simp (disch := decide) only [tu_row, tu_at, tu_same, tu_ne] at hle ⊢
    refine ⟨⟨l1, l2, l3, lon, lce, lsh, lz, lnd, up_row lmo (by omega) (by omega), lwo, hle⟩, s1, s2, s3, s4⟩
  · have e1 : td_upd Dc (ch_r 5) (ch_j 5 n) x = td_upd Dc 9 n.toNat x := rfl
    have e2 : td_upd Dm (cm_r 5) (cm_j 5 n) x = td_upd Dm 7 n.toNat x := rfl
    rw [e1] at hle ⊢
    rw [e2]
    simp (disch := decide) only [tu_row, tu_at, tu_same, tu_ne] at hle ⊢
    refine ⟨⟨l1, l2, l3, lon, lce, lsh, lz, lnd, lmo, up_row lwo (by omega) (by omega), lnm⟩, s1, s2, s3, s4⟩
  · have e1 : td_upd Dc (ch_r 6) (ch_j 6 n) x = td_upd Dc 2 9 x := rfl
    have e2 : td_upd Dm (cm_r 6) (cm_j 6 n) x = td_upd Dm 8 0 x := rfl
    rw [e1] at hle ⊢
    rw [e2]
    simp (disch := decide) only [tu_row, tu_at, tu_same, tu_ne] at hle ⊢
    refine ⟨⟨l1, l2, l3, lon, lce, lsh, lz, lnd, lmo, lwo, lnm⟩, ⟨trivial, by omega, by omega⟩, s2, s3, s4⟩
  · have e1 : td_upd Dc (ch_r 7) (ch_j 7 n) x = td_upd Dc 2 10 x := rfl
    have e2 : td_upd Dm (cm_r 7) (cm_j 7 n) x = td_upd Dm 8 1 x := rfl
    rw [e1] at hle ⊢
    rw [e2]
    simp (disch := decide) only [tu_row, tu_at, tu_same, tu_ne] at hle ⊢
    refine ⟨⟨l1, l2, l3, lon, lce, lsh, lz, lnd, lmo, lwo, lnm⟩, s1, ⟨trivial, by omega, by omega⟩, s3, s4⟩
  · have e1 : td_upd Dc (ch_r 8) (ch_j 8 n) x = td_upd Dc 2 11 x := rfl
    have e2 : td_upd Dm (cm_r 8) (cm_j 8 n) x = td_upd Dm 8 2 x := rfl
    rw [e1] at hle ⊢
    rw [e2]
    simp (disch := decide) only [tu_row, tu_at, tu_same, tu_ne] at hle ⊢
    refine ⟨⟨l1, l2, l3, lon, lce, lsh, lz, lnd, lmo, lwo, lnm⟩, s1, s2, ⟨trivial, by omega, by omega⟩, s4⟩
  · have e1 : td_upd Dc (ch_r 9) (ch_j 9 n) x = td_upd Dc 2 12 x := rfl
    have e2 : td_upd Dm (cm_r 9) (cm_j 9 n) x = td_upd Dm 8 3 x := rfl
    rw [e1] at hle ⊢
    rw [e2]
    simp (disch := decide) only [tu_row, tu_at, tu_same, tu_ne] at hle ⊢
    refine ⟨⟨l1, l2, l3, lon, lce, lsh, lz, lnd, lmo, lwo, lnm⟩, s1, s2, s3, ⟨trivial, by omega, by omega⟩⟩
theorem rs_o_ch {pe hi de w n x : Int} {Dc Dm : td_D} (ho : rs_o Dc Dm) (h : p_ch pe hi de w n x) : rs_o (td_upd Dc (ch_r w) (ch_j w n) x) (td_upd Dm (cm_r w) (cm_j w n) x) := by
  unfold p_ch at h
  unfold rs_o at *
  rcases h with ⟨rfl, h⟩ | ⟨rfl, h⟩ | ⟨rfl, h⟩ | ⟨rfl | rfl | rfl, h⟩ | ⟨rfl, h⟩ | ⟨rfl, h⟩ | ⟨rfl, h⟩ | ⟨rfl, h⟩
  · rw [show td_upd Dc (ch_r 0) (ch_j 0 n) x = td_upd Dc 3 n.toNat x from rfl, show td_upd Dm (cm_r 0) (cm_j 0 n) x = td_upd Dm 2 n.toNat x from rfl]
    simp (disch := decide) only [tu_row, tu_at, tu_same, tu_ne]
    exact ho
  · rw [show td_upd Dc (ch_r 1) (ch_j 1 n) x = td_upd Dc 6 (6 * (n / 10) + n % 10).toNat x from rfl, show td_upd Dm (cm_r 1) (cm_j 1 n) x = td_upd Dm 4 (6 * (n / 10) + n % 10).toNat x from rfl]
    simp (disch := decide) only [tu_row, tu_at, tu_same, tu_ne]
    exact ho
  · rw [show td_upd Dc (ch_r 2) (ch_j 2 n) x = td_upd Dc 4 n.toNat x from rfl, show td_upd Dm (cm_r 2) (cm_j 2 n) x = td_upd Dm 3 n.toNat x from rfl]
    simp (disch := decide) only [tu_row, tu_at, tu_same, tu_ne]
    exact ho
  · rw [show td_upd Dc (ch_r 3) (ch_j 3 n) x = td_upd Dc 7 n.toNat x from rfl, show td_upd Dm (cm_r 3) (cm_j 3 n) x = td_upd Dm 5 n.toNat x from rfl]
    simp (disch := decide) only [tu_row, tu_at, tu_same, tu_ne]
    exact ho
  · rw [show td_upd Dc (ch_r 4) (ch_j 4 n) x = td_upd Dc 8 n.toNat x from rfl, show td_upd Dm (cm_r 4) (cm_j 4 n) x = td_upd Dm 6 n.toNat x from rfl]
    simp (disch := decide) only [tu_row, tu_at, tu_same, tu_ne]
    exact ho
  · rw [show td_upd Dc (ch_r 5) (ch_j 5 n) x = td_upd Dc 9 n.toNat x from rfl, show td_upd Dm (cm_r 5) (cm_j 5 n) x = td_upd Dm 7 n.toNat x from rfl]
    simp (disch := decide) only [tu_row, tu_at, tu_same, tu_ne]
    exact ho
  · rw [show td_upd Dc (ch_r 6) (ch_j 6 n) x = td_upd Dc 2 9 x from rfl, show td_upd Dm (cm_r 6) (cm_j 6 n) x = td_upd Dm 8 0 x from rfl]
    simp (disch := decide) only [tu_row, tu_at, tu_same, tu_ne]
    exact ho
  · rw [show td_upd Dc (ch_r 7) (ch_j 7 n) x = td_upd Dc 2 10 x from rfl, show td_upd Dm (cm_r 7) (cm_j 7 n) x = td_upd Dm 8 1 x from rfl]
    simp (disch := decide) only [tu_row, tu_at, tu_same, tu_ne]
    exact ho
  · rw [show td_upd Dc (ch_r 8) (ch_j 8 n) x = td_upd Dc 2 11 x from rfl, show td_upd Dm (cm_r 8) (cm_j 8 n) x = td_upd Dm 8 2 x from rfl]
    simp (disch := decide) only [tu_row, tu_at, tu_same, tu_ne]
    exact ho
  · rw [show td_upd Dc (ch_r 9) (ch_j 9 n) x = td_upd Dc 2 12 x from rfl, show td_upd Dm (cm_r 9) (cm_j 9 n) x = td_upd Dm 8 3 x from rfl]
    simp (disch := decide) only [tu_row, tu_at, tu_same, tu_ne]
    exact ho
/-- what NEEDS and MOST are behind a change -/
theorem ch_78 {pe hi de w n x : Int} {D : td_D} (h : p_ch pe hi de w n x) (i : Nat) : (td_upd D (ch_r w) (ch_j w n) x 7 i = if w = 3 ∧ i = n.toNat then x else D 7 i) ∧ (td_upd D (ch_r w) (ch_j w n) x 8 i = if w = 4 ∧ i = n.toNat then x else D 8 i) ∧ td_upd D (ch_r w) (ch_j w n) x 2 0 = D 2 0 ∧ td_upd D (ch_r w) (ch_j w n) x 2 1 = D 2 1 ∧ td_upd D (ch_r w) (ch_j w n) x 2 2 = D 2 2 ∧ ∀ r : Nat, 10 ≤ r → td_upd D (ch_r w) (ch_j w n) x r = D r := by
  unfold p_ch at h
  rcases h with ⟨rfl, h⟩ | ⟨rfl, h⟩ | ⟨rfl, h⟩ | ⟨rfl | rfl | rfl, h⟩ | ⟨rfl, h⟩ | ⟨rfl, h⟩ | ⟨rfl, h⟩ | ⟨rfl, h⟩
  · rw [show td_upd D (ch_r 0) (ch_j 0 n) x = td_upd D 3 n.toNat x from rfl]
    refine ⟨?_, ?_, ?_, ?_, ?_, fun r hr => tu_row (by omega)⟩ <;> simp [td_upd]
  · rw [show td_upd D (ch_r 1) (ch_j 1 n) x = td_upd D 6 (6 * (n / 10) + n % 10).toNat x from rfl]
    refine ⟨?_, ?_, ?_, ?_, ?_, fun r hr => tu_row (by omega)⟩ <;> simp [td_upd]
  · rw [show td_upd D (ch_r 2) (ch_j 2 n) x = td_upd D 4 n.toNat x from rfl]
    refine ⟨?_, ?_, ?_, ?_, ?_, fun r hr => tu_row (by omega)⟩ <;> simp [td_upd]
  · rw [show td_upd D (ch_r 3) (ch_j 3 n) x = td_upd D 7 n.toNat x from rfl]
    refine ⟨?_, ?_, ?_, ?_, ?_, fun r hr => tu_row (by omega)⟩ <;> simp [td_upd]
  · rw [show td_upd D (ch_r 4) (ch_j 4 n) x = td_upd D 8 n.toNat x from rfl]
    refine ⟨?_, ?_, ?_, ?_, ?_, fun r hr => tu_row (by omega)⟩ <;> simp [td_upd]
  · rw [show td_upd D (ch_r 5) (ch_j 5 n) x = td_upd D 9 n.toNat x from rfl]
    refine ⟨?_, ?_, ?_, ?_, ?_, fun r hr => tu_row (by omega)⟩ <;> simp [td_upd]
  · rw [show td_upd D (ch_r 6) (ch_j 6 n) x = td_upd D 2 9 x from rfl]
    refine ⟨?_, ?_, ?_, ?_, ?_, fun r hr => tu_row (by omega)⟩ <;> simp [td_upd]
  · rw [show td_upd D (ch_r 7) (ch_j 7 n) x = td_upd D 2 10 x from rfl]
    refine ⟨?_, ?_, ?_, ?_, ?_, fun r hr => tu_row (by omega)⟩ <;> simp [td_upd]
  · rw [show td_upd D (ch_r 8) (ch_j 8 n) x = td_upd D 2 11 x from rfl]
    refine ⟨?_, ?_, ?_, ?_, ?_, fun r hr => tu_row (by omega)⟩ <;> simp [td_upd]
  · rw [show td_upd D (ch_r 9) (ch_j 9 n) x = td_upd D 2 12 x from rfl]
    refine ⟨?_, ?_, ?_, ?_, ?_, fun r hr => tu_row (by omega)⟩ <;> simp [td_upd]
theorem cm_fr {pe hi de w n x : Int} {D : td_D} (h : p_ch pe hi de w n x) : ∀ r : Nat, (r = 1 ∨ 9 ≤ r) → td_upd D (cm_r w) (cm_j w n) x r = D r := by
  unfold p_ch at h
  rcases h with ⟨rfl, h⟩ | ⟨rfl, h⟩ | ⟨rfl, h⟩ | ⟨rfl | rfl | rfl, h⟩ | ⟨rfl, h⟩ | ⟨rfl, h⟩ | ⟨rfl, h⟩ | ⟨rfl, h⟩
  · rw [show td_upd D (cm_r 0) (cm_j 0 n) x = td_upd D 2 n.toNat x from rfl]
    exact fun r hr => tu_row (by omega)
  · rw [show td_upd D (cm_r 1) (cm_j 1 n) x = td_upd D 4 (6 * (n / 10) + n % 10).toNat x from rfl]
    exact fun r hr => tu_row (by omega)
  · rw [show td_upd D (cm_r 2) (cm_j 2 n) x = td_upd D 3 n.toNat x from rfl]
    exact fun r hr => tu_row (by omega)
  · rw [show td_upd D (cm_r 3) (cm_j 3 n) x = td_upd D 5 n.toNat x from rfl]
    exact fun r hr => tu_row (by omega)
  · rw [show td_upd D (cm_r 4) (cm_j 4 n) x = td_upd D 6 n.toNat x from rfl]
    exact fun r hr => tu_row (by omega)
  · rw [show td_upd D (cm_r 5) (cm_j 5 n) x = td_upd D 7 n.toNat x from rfl]
    exact fun r hr => tu_row (by omega)
  · rw [show td_upd D (cm_r 6) (cm_j 6 n) x = td_upd D 8 0 x from rfl]
    exact fun r hr => tu_row (by omega)
  · rw [show td_upd D (cm_r 7) (cm_j 7 n) x = td_upd D 8 1 x from rfl]
    exact fun r hr => tu_row (by omega)
  · rw [show td_upd D (cm_r 8) (cm_j 8 n) x = td_upd D 8 2 x from rfl]
    exact fun r hr => tu_row (by omega)
  · rw [show td_upd D (cm_r 9) (cm_j 9 n) x = td_upd D 8 3 x from rfl]
    exact fun r hr => tu_row (by omega)
/-- numbers that are there -/
theorem one_of {w n : Int} {Dc Dm : td_D} (hl : rs_l Dc Dm) (hn : tv_in n) :
    (∃ v : Int, 0 ≤ v ∧ F_X3_numberOf n w Dc = some (v, Dc) ∧ F_X12_isOne n w Dm = some (1, Dm) ∧ F_X12_valueAt w n Dm = some (v, Dm) ∧ p_ch (Dc 2 0) (Dc 2 1) (Dc 2 2) w n v ∧ Dc (ch_r w) (ch_j w n) = v) ∨ (F_X3_numberOf n w Dc = some (-1, Dc) ∧ F_X12_isOne n w Dm = some (0, Dm)) := by
  obtain ⟨⟨⟨l1, l1a, l1b⟩, ⟨l2, l2a, l2b⟩, ⟨l3, l3a, l3b⟩, lon, lce, lsh, lz, lnd, lmo, lwo, lnm⟩, ⟨s1, s1a, s1b⟩, ⟨s2, s2a, s2b⟩, ⟨s3, s3a, s3b⟩, ⟨s4, s4a, s4b⟩⟩ := hl
  have k1 : 0 ≤ Dm 1 1 ∧ Dm 1 1 ≤ 6 := by omega
  have k2 : 0 ≤ Dm 1 3 ∧ Dm 1 3 ≤ 5 := by omega
  have k3 : 0 ≤ Dm 1 6 ∧ Dm 1 6 ≤ 10 := by omega
  have hn2 := hn.2
  by_cases c0 : w = 0
  · subst c0
    by_cases q : 0 ≤ n ∧ n < Dc 2 0
    · refine Or.inl ⟨Dc 3 n.toNat, (lon _ (by omega)).2.1, ?_, ?_, ?_, ?_, rfl⟩
      · unfold F_X3_numberOf
        rw [if_pos rfl, fe_isPerson, td_bs, tf_t q, if_neg (by decide), if_pos (by omega)]
      · unfold F_X12_isOne
        rw [if_pos rfl, fm_isPerson _ k1, td_bs, if_pos tf_01, tf_t (by omega)]
      · unfold F_X12_valueAt
        rw [if_pos rfl, if_pos (by omega), (lon _ (by omega)).1]
      · have b := lon n.toNat (by omega)
        unfold p_ch
        omega
    · refine Or.inr ⟨?_, ?_⟩
      · unfold F_X3_numberOf
        rw [if_pos rfl, fe_isPerson, td_bs, tf_f q, if_pos rfl]
      · unfold F_X12_isOne
        rw [if_pos rfl, fm_isPerson _ k1, td_bs, if_pos tf_01, tf_f (by omega)]
  by_cases c1 : w = 1
  · subst c1
    by_cases q : 0 ≤ n ∧ n / 10 < Dc 2 1 ∧ n % 10 < Dc 2 0
    · refine Or.inl ⟨Dc 6 (6 * (n / 10) + n % 10).toNat, (lsh _ (by omega)).2.1, ?_, ?_, ?_, ?_, rfl⟩
      · unfold F_X3_numberOf
        rw [if_neg (by decide), if_pos rfl, fe_isShare hn, td_bs, tf_t q, if_neg (by decide), tv_dv (by omega) hn2 (by omega), tv_rme (by omega), fe_share (by omega) (by omega) (by omega) (by omega), td_bs]
        rfl
      · unfold F_X12_isOne
        rw [if_neg (by decide), if_pos rfl, fm_areHis hn k1 k2, td_bs, if_pos tf_01, tf_t (by omega)]
      · unfold F_X12_valueAt
        rw [if_neg (by decide), if_pos rfl, tv_dv (by omega) hn2 (by omega), tv_rme (by omega), tw_s (a := 6 * (n / 10)) (by omega) (by omega), tw_s (a := 6 * (n / 10) + n % 10) (by omega) (by omega), if_pos (by omega), (lsh _ (by omega)).1]
      · have b := lsh (6 * (n / 10) + n % 10).toNat (by omega)
        unfold p_ch
        omega
    · refine Or.inr ⟨?_, ?_⟩
      · unfold F_X3_numberOf
        rw [if_neg (by decide), if_pos rfl, fe_isShare hn, td_bs, tf_f q, if_pos rfl]
      · unfold F_X12_isOne
        rw [if_neg (by decide), if_pos rfl, fm_areHis hn k1 k2, td_bs, if_pos tf_01, tf_f (by omega)]
  by_cases c2 : w = 2
  · subst c2
    by_cases q : 0 ≤ n ∧ n < Dc 2 1
    · refine Or.inl ⟨Dc 4 n.toNat, (lce _ (by omega)).2.1, ?_, ?_, ?_, ?_, rfl⟩
      · unfold F_X3_numberOf
        rw [if_neg (by decide), if_neg (by decide), if_pos rfl, fe_isHive, td_bs, tf_t q, if_neg (by decide), if_pos (by omega)]
      · unfold F_X12_isOne
        rw [if_neg (by decide), if_neg (by decide), if_pos rfl, fm_isHive _ k2, td_bs, if_pos tf_01, tf_t (by omega)]
      · unfold F_X12_valueAt
        rw [if_neg (by decide), if_neg (by decide), if_pos rfl, if_pos (by omega), (lce _ (by omega)).1]
      · have b := lce n.toNat (by omega)
        unfold p_ch
        omega
    · refine Or.inr ⟨?_, ?_⟩
      · unfold F_X3_numberOf
        rw [if_neg (by decide), if_neg (by decide), if_pos rfl, fe_isHive, td_bs, tf_f q, if_pos rfl]
      · unfold F_X12_isOne
        rw [if_neg (by decide), if_neg (by decide), if_pos rfl, fm_isHive _ k2, td_bs, if_pos tf_01, tf_f (by omega)]
  by_cases c3 : w = 3
  · subst c3
    by_cases q : 0 ≤ n ∧ n < Dc 2 2
    · refine Or.inl ⟨Dc 7 n.toNat, (lnd _ (by omega)).2.1, ?_, ?_, ?_, ?_, rfl⟩
      · unfold F_X3_numberOf
        rw [if_neg (by decide), if_neg (by decide), if_neg (by decide), if_pos rfl, fe_isDeed, td_bs, tf_t q, if_neg (by decide), if_pos (by omega)]
      · unfold F_X12_isOne
        rw [if_neg (by decide), if_neg (by decide), if_neg (by decide), fm_in, td_bs, tf_t (by decide), if_neg (by decide), fm_isDeed _ k3, td_bs, if_pos tf_01, tf_t (by omega)]
      · unfold F_X12_valueAt
        rw [if_neg (by decide), if_neg (by decide), if_neg (by decide), if_pos rfl, if_pos (by omega), (lnd _ (by omega)).1]
      · have b := lnd n.toNat (by omega)
        unfold p_ch
        omega
    · refine Or.inr ⟨?_, ?_⟩
      · unfold F_X3_numberOf
        rw [if_neg (by decide), if_neg (by decide), if_neg (by decide), if_pos rfl, fe_isDeed, td_bs, tf_f q, if_pos rfl]
      · unfold F_X12_isOne
        rw [if_neg (by decide), if_neg (by decide), if_neg (by decide), fm_in, td_bs, tf_t (by decide), if_neg (by decide), fm_isDeed _ k3, td_bs, if_pos tf_01, tf_f (by omega)]
  by_cases c4 : w = 4
  · subst c4
    by_cases q : 0 ≤ n ∧ n < Dc 2 2
    · refine Or.inl ⟨Dc 8 n.toNat, (lmo _ (by omega)).2.1, ?_, ?_, ?_, ?_, rfl⟩
      · unfold F_X3_numberOf
        rw [if_neg (by decide), if_neg (by decide), if_neg (by decide), if_neg (by decide), if_pos rfl, fe_isDeed, td_bs, tf_t q, if_neg (by decide), if_pos (by omega)]
      · unfold F_X12_isOne
        rw [if_neg (by decide), if_neg (by decide), if_neg (by decide), fm_in, td_bs, tf_t (by decide), if_neg (by decide), fm_isDeed _ k3, td_bs, if_pos tf_01, tf_t (by omega)]
      · unfold F_X12_valueAt
        rw [if_neg (by decide), if_neg (by decide), if_neg (by decide), if_neg (by decide), if_pos rfl, if_pos (by omega), (lmo _ (by omega)).1]
      · have b := lmo n.toNat (by omega)
        unfold p_ch
        omega
    · refine Or.inr ⟨?_, ?_⟩
      · unfold F_X3_numberOf
        rw [if_neg (by decide), if_neg (by decide), if_neg (by decide), if_neg (by decide), if_pos rfl, fe_isDeed, td_bs, tf_f q, if_pos rfl]
      · unfold F_X12_isOne
        rw [if_neg (by decide), if_neg (by decide), if_neg (by decide), fm_in, td_bs, tf_t (by decide), if_neg (by decide), fm_isDeed _ k3, td_bs, if_pos tf_01, tf_f (by omega)]
  by_cases c5 : w = 5
  · subst c5
    by_cases q : 0 ≤ n ∧ n < Dc 2 2
    · refine Or.inl ⟨Dc 9 n.toNat, (lwo _ (by omega)).2.1, ?_, ?_, ?_, ?_, rfl⟩
      · unfold F_X3_numberOf
        rw [if_neg (by decide), if_neg (by decide), if_neg (by decide), if_neg (by decide), if_neg (by decide), if_pos rfl, fe_isDeed, td_bs, tf_t q, if_neg (by decide), if_pos (by omega)]
      · unfold F_X12_isOne
        rw [if_neg (by decide), if_neg (by decide), if_neg (by decide), fm_in, td_bs, tf_t (by decide), if_neg (by decide), fm_isDeed _ k3, td_bs, if_pos tf_01, tf_t (by omega)]
      · unfold F_X12_valueAt
        rw [if_neg (by decide), if_neg (by decide), if_neg (by decide), if_neg (by decide), if_neg (by decide), if_pos rfl, if_pos (by omega), (lwo _ (by omega)).1]
      · have b := lwo n.toNat (by omega)
        unfold p_ch
        omega
    · refine Or.inr ⟨?_, ?_⟩
      · unfold F_X3_numberOf
        rw [if_neg (by decide), if_neg (by decide), if_neg (by decide), if_neg (by decide), if_neg (by decide), if_pos rfl, fe_isDeed, td_bs, tf_f q, if_pos rfl]
      · unfold F_X12_isOne
        rw [if_neg (by decide), if_neg (by decide), if_neg (by decide), fm_in, td_bs, tf_t (by decide), if_neg (by decide), fm_isDeed _ k3, td_bs, if_pos tf_01, tf_f (by omega)]
  by_cases q : n = 0 ∧ 6 ≤ w ∧ w ≤ 9
  · obtain ⟨rfl, q⟩ := q
    have q2 : w = 6 ∨ w = 7 ∨ w = 8 ∨ w = 9 := by omega
    rcases q2 with rfl | rfl | rfl | rfl
    · refine Or.inl ⟨Dc 2 9, by omega, rfl, ?_, ?_, by unfold p_ch; omega, rfl⟩
      · unfold F_X12_isOne
        rw [if_neg (by decide), if_neg (by decide), if_neg (by decide), fm_in, td_bs, tf_f (by decide), if_pos rfl, fm_in, td_bs, tf_t (by decide), if_neg (by decide), if_pos rfl]
      · unfold F_X12_valueAt
        rw [if_neg (by decide), if_neg (by decide), if_neg (by decide), if_neg (by decide), if_neg (by decide), if_neg (by decide), tw_s (by omega) (by omega), if_pos (by decide)]
        exact congrArg (fun z => some (z, Dm)) s1
    · refine Or.inl ⟨Dc 2 10, by omega, rfl, ?_, ?_, by unfold p_ch; omega, rfl⟩
      · unfold F_X12_isOne
        rw [if_neg (by decide), if_neg (by decide), if_neg (by decide), fm_in, td_bs, tf_f (by decide), if_pos rfl, fm_in, td_bs, tf_t (by decide), if_neg (by decide), if_pos rfl]
      · unfold F_X12_valueAt
        rw [if_neg (by decide), if_neg (by decide), if_neg (by decide), if_neg (by decide), if_neg (by decide), if_neg (by decide), tw_s (by omega) (by omega), if_pos (by decide)]
        exact congrArg (fun z => some (z, Dm)) s2
    · refine Or.inl ⟨Dc 2 11, by omega, rfl, ?_, ?_, by unfold p_ch; omega, rfl⟩
      · unfold F_X12_isOne
        rw [if_neg (by decide), if_neg (by decide), if_neg (by decide), fm_in, td_bs, tf_f (by decide), if_pos rfl, fm_in, td_bs, tf_t (by decide), if_neg (by decide), if_pos rfl]
      · unfold F_X12_valueAt
        rw [if_neg (by decide), if_neg (by decide), if_neg (by decide), if_neg (by decide), if_neg (by decide), if_neg (by decide), tw_s (by omega) (by omega), if_pos (by decide)]
        exact congrArg (fun z => some (z, Dm)) s3
    · refine Or.inl ⟨Dc 2 12, by omega, rfl, ?_, ?_, by unfold p_ch; omega, rfl⟩
      · unfold F_X12_isOne
        rw [if_neg (by decide), if_neg (by decide), if_neg (by decide), fm_in, td_bs, tf_f (by decide), if_pos rfl, fm_in, td_bs, tf_t (by decide), if_neg (by decide), if_pos rfl]
      · unfold F_X12_valueAt
        rw [if_neg (by decide), if_neg (by decide), if_neg (by decide), if_neg (by decide), if_neg (by decide), if_neg (by decide), tw_s (by omega) (by omega), if_pos (by decide)]
        exact congrArg (fun z => some (z, Dm)) s4
  · refine Or.inr ⟨?_, ?_⟩
    · unfold F_X3_numberOf F_X3_setting
      rw [if_neg c0, if_neg c1, if_neg c2, if_neg c3, if_neg c4, if_neg c5]
      by_cases z : n = 0
      · rw [if_pos z, if_neg (by omega), if_neg (by omega), if_neg (by omega), if_neg (by omega), td_bs]
      · rw [if_neg z]
    · unfold F_X12_isOne
      rw [if_neg c0, if_neg c1, if_neg c2, fm_in, td_bs, tf_f (by omega), if_pos rfl, fm_in, td_bs]
      simp only [tf_0]
      (repeat' split) <;> first | rfl | omega
/-- of -/
theorem st_5 : ls_5 lw_R := by
  intro a1 a2 Dc Dm h1 _ _ hR
  unfold F_X11_of F_X12_of
  rcases one_of (w := a2) (rs_iff.mp hR).1 h1 with ⟨v, _, e1, e2, e3, _, _⟩ | ⟨e1, e2⟩
  · rw [e1, td_bs, e2, td_bs, if_neg (by decide), e3, td_bs]
    exact lw_rt rfl hR
  · rw [e1, td_bs, e2, td_bs, if_pos rfl]
    exact lw_rt rfl hR
/-- values that fit -/
theorem may_of {w n x v : Int} {Dc Dm : td_D} (hl : rs_l Dc Dm) (h : p_ch (Dc 2 0) (Dc 2 1) (Dc 2 2) w n v) :
    (F_X3_fits n w x Dc = some (0, Dc) ∧ F_X12_mayHave n w x Dm = some (0, Dm)) ∨ (F_X3_fits n w x Dc = some (1, Dc) ∧ F_X12_mayHave n w x Dm = some (1, Dm) ∧ p_ch (Dc 2 0) (Dc 2 1) (Dc 2 2) w n x ∧ (w = 3 → x ≤ Dc 8 n.toNat) ∧ (w = 4 → Dc 7 n.toNat ≤ x)) := by
  obtain ⟨⟨⟨l1, l1a, l1b⟩, ⟨l2, l2a, l2b⟩, ⟨l3, l3a, l3b⟩, lon, lce, lsh, lz, lnd, lmo, lwo, lnm⟩, -⟩ := hl
  unfold p_ch at h ⊢
  unfold F_X3_fits F_X12_mayHave
  simp only [fe_isTemper, fm_isMuch, fm_in, fe_isDeed, td_bs, if_pos tf_01]
  simp only [tf_0]
  rcases h with ⟨rfl, h⟩ | ⟨rfl, h⟩ | ⟨rfl, h⟩ | ⟨rfl | rfl | rfl, h⟩ | ⟨rfl, h⟩ | ⟨rfl, h⟩ | ⟨rfl, h⟩ | ⟨rfl, h⟩
  · have b0 := l1
    by_cases q : 0 ≤ x ∧ x ≤ 99
    · refine Or.inr ⟨?_, ?_, by omega, by omega, by omega⟩ <;> simp (disch := omega) only [if_true, if_false, if_pos, if_neg, tf_t]
    · refine Or.inl ⟨?_, ?_⟩
      · by_cases q1 : x < 0 <;> simp (disch := omega) only [if_true, if_false, if_pos, if_neg, tf_f]
      · simp (disch := omega) only [if_true, if_false, if_pos, if_neg, tf_f]
  · have b0 := l1
    by_cases q : 0 ≤ x ∧ x ≤ 99
    · refine Or.inr ⟨?_, ?_, by omega, by omega, by omega⟩ <;> simp (disch := omega) only [if_true, if_false, if_pos, if_neg, tf_t]
    · refine Or.inl ⟨?_, ?_⟩
      · by_cases q1 : x < 0 <;> simp (disch := omega) only [if_true, if_false, if_pos, if_neg, tf_f]
      · simp (disch := omega) only [if_true, if_false, if_pos, if_neg, tf_f]
  · have b0 := l1
    by_cases q : 0 ≤ x ∧ x ≤ 99
    · refine Or.inr ⟨?_, ?_, by omega, by omega, by omega⟩ <;> simp (disch := omega) only [if_true, if_false, if_pos, if_neg, tf_t]
    · refine Or.inl ⟨?_, ?_⟩
      · by_cases q1 : x < 0 <;> simp (disch := omega) only [if_true, if_false, if_pos, if_neg, tf_f]
      · simp (disch := omega) only [if_true, if_false, if_pos, if_neg, tf_f]
  · have b := lmo n.toNat (by omega)
    by_cases q : 0 ≤ x ∧ x ≤ Dc 8 n.toNat
    · refine Or.inr ⟨?_, ?_, by omega, by omega, by omega⟩ <;> simp (disch := omega) only [if_true, if_false, if_pos, if_neg, tf_t, b.1]
    · refine Or.inl ⟨?_, ?_⟩
      · by_cases q1 : x < 0 <;> simp (disch := omega) only [if_true, if_false, if_pos, if_neg, tf_f]
      · simp (disch := omega) only [if_true, if_false, if_pos, if_neg, tf_f, b.1]
  · have b := lnd n.toNat (by omega)
    by_cases q : Dc 7 n.toNat ≤ x ∧ x ≤ 99
    · refine Or.inr ⟨?_, ?_, by omega, by omega, by omega⟩ <;> simp (disch := omega) only [if_true, if_false, if_pos, if_neg, tf_t, b.1]
    · refine Or.inl ⟨?_, ?_⟩
      · by_cases q1 : 99 < x <;> simp (disch := omega) only [if_true, if_false, if_pos, if_neg, tf_f]
      · simp (disch := omega) only [if_true, if_false, if_pos, if_neg, tf_f, b.1]
  · have b0 := l1
    by_cases q : 0 ≤ x ∧ x ≤ 99
    · refine Or.inr ⟨?_, ?_, by omega, by omega, by omega⟩ <;> simp (disch := omega) only [if_true, if_false, if_pos, if_neg, tf_t]
    · refine Or.inl ⟨?_, ?_⟩
      · by_cases q1 : x < 0 <;> simp (disch := omega) only [if_true, if_false, if_pos, if_neg, tf_f]
      · simp (disch := omega) only [if_true, if_false, if_pos, if_neg, tf_f]
  · have b0 := l1
    by_cases q : 0 ≤ x ∧ x ≤ 3
    · refine Or.inr ⟨?_, ?_, by omega, by omega, by omega⟩ <;> simp (disch := omega) only [if_true, if_false, if_pos, if_neg, tf_t]
    · refine Or.inl ⟨?_, ?_⟩
      · by_cases q1 : x < 0 <;> simp (disch := omega) only [if_true, if_false, if_pos, if_neg, tf_f]
      · simp (disch := omega) only [if_true, if_false, if_pos, if_neg, tf_f]
  · have b0 := l1
    by_cases q : 1 ≤ x ∧ x ≤ 20
    · refine Or.inr ⟨?_, ?_, by omega, by omega, by omega⟩ <;> simp (disch := omega) only [if_true, if_false, if_pos, if_neg, tf_t]
    · refine Or.inl ⟨?_, ?_⟩
      · by_cases q1 : x < 1 <;> simp (disch := omega) only [if_true, if_false, if_pos, if_neg, tf_f]
      · simp (disch := omega) only [if_true, if_false, if_pos, if_neg, tf_f]
  · have b0 := l1
    by_cases q : 0 ≤ x ∧ x ≤ 12
    · refine Or.inr ⟨?_, ?_, by omega, by omega, by omega⟩ <;> simp (disch := omega) only [if_true, if_false, if_pos, if_neg, tf_t]
    · refine Or.inl ⟨?_, ?_⟩
      · by_cases q1 : x < 0 <;> simp (disch := omega) only [if_true, if_false, if_pos, if_neg, tf_f]
      · simp (disch := omega) only [if_true, if_false, if_pos, if_neg, tf_f]
  · have b0 := l1
    by_cases q : 0 ≤ x ∧ x ≤ 99
    · refine Or.inr ⟨?_, ?_, by omega, by omega, by omega⟩ <;> simp (disch := omega) only [if_true, if_false, if_pos, if_neg, tf_t]
    · refine Or.inl ⟨?_, ?_⟩
      · by_cases q1 : x < 0 <;> simp (disch := omega) only [if_true, if_false, if_pos, if_neg, tf_f]
      · simp (disch := omega) only [if_true, if_false, if_pos, if_neg, tf_f]
