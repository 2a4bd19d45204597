def sh_1 (f : Nat → Int) : Nat → Int := fun j => if j < 39 then f (j + 1) else f j
theorem tc_row {D : td_D} {r0 sp r1 dp n r' : Nat} (h : r' ≠ r1) : td_cpy D r0 sp r1 dp n r' = D r' := by
  funext j
  show (if _ then _ else _) = _
  rw [if_neg (fun q => h q.1)]
theorem tc_39 {D : td_D} {r : Nat} : td_cpy D r 1 r 0 39 r = sh_1 (D r) := by
  funext j
  show (if _ then _ else _) = (if _ then _ else _)
  by_cases c : j < 39
  · rw [if_pos ⟨rfl, by omega, by omega⟩, if_pos c]
    congr 1
    omega
  · rw [if_neg (by omega), if_neg c]
theorem p_chg_cut {pe hi de : Int} {nd mo : Nat → Int} {sz sd : Int} {nu wh wa be : Nat → Int} {dn un : Int} {of at' bf bh : Nat → Int} (h : p_chg pe hi de nd mo sz sd nu wh wa be dn un of at' bf bh) : p_chg pe hi de nd mo sd sd nu wh wa be dn 0 of at' bf bh := by
  obtain ⟨a, b, V, v1, v2, v3⟩ := h
  exact ⟨by omega, fun k hk => b k (by omega), V, v1, fun k i hk hi => v2 k i (by omega) hi, fun k hk => v3 k (by omega)⟩
theorem p_chg_drop {pe hi de : Int} {nd mo : Nat → Int} {sz sd : Int} {nu wh wa be : Nat → Int} {dn un : Int} {of at' bf bh : Nat → Int} {of2 at2 bf2 bh2 : Nat → Int} (hs : sd = 40) (h : p_chg pe hi de nd mo sz sd nu wh wa be dn un of at' bf bh)
    (q5 : ∀ k : Nat, k < 39 → of2 k = of (k + 1)) (q6 : ∀ k : Nat, k < 39 → at2 k = at' (k + 1)) (q7 : ∀ k : Nat, k < 39 → bf2 k = bf (k + 1)) (q8 : ∀ k : Nat, k < 39 → bh2 k = bh (k + 1)) : p_chg pe hi de nd mo 39 39 (sh_1 nu) (sh_1 wh) (sh_1 wa) (sh_1 be) 39 0 of2 at2 bf2 bh2 := by
  subst hs
  obtain ⟨a, b, V, v1, v2, v3⟩ := h
  have e : ∀ (f : Nat → Int) (k : Nat), (k : Int) < 39 → sh_1 f k = f (k + 1) := fun f k hk => if_pos (by omega)
  refine ⟨by omega, fun k hk => ?_, fun k => V (k + 1), fun i hi => v1 i hi, fun k i hk hi => v2 (k + 1) i (by omega) hi, fun k hk => ?_⟩
  · rw [e _ _ hk, e _ _ hk, e _ _ hk, e _ _ hk, q5 k (by omega), q6 k (by omega), q7 k (by omega), q8 k (by omega)]
    exact b (k + 1) (by omega)
  · rw [e _ _ hk, e _ _ hk, e _ _ hk, e _ _ hk]
    exact v3 (k + 1) (by omega)
theorem p_chg_note {pe hi de : Int} {nd mo nd' mo' : Nat → Int} {sd : Int} {nu wh wa be : Nat → Int} {dn un : Int} {of at' bf bh : Nat → Int} {w n was x : Int} (hs : sd < 40) (hd : de ≤ 10) (h : p_chg pe hi de nd mo sd sd nu wh wa be dn un of at' bf bh) (c1 : p_ch pe hi de w n was) (c2 : p_ch pe hi de w n x)
    (n1 : ∀ i : Nat, i < 10 → nd' i = if w = 3 ∧ i = n.toNat then x else nd i) (m1 : ∀ i : Nat, i < 10 → mo' i = if w = 4 ∧ i = n.toNat then x else mo i) (w1 : w = 3 → nd n.toNat = was) (w2 : w = 4 → mo n.toNat = was) (hle : ∀ i : Nat, i < 10 → nd' i ≤ mo' i) :
    p_chg pe hi de nd' mo' (sd + 1) (sd + 1) (tv_up nu sd.toNat n) (tv_up wh sd.toNat w) (tv_up wa sd.toNat was) (tv_up be sd.toNat x) (dn + 1) 0 (tv_up of dn.toNat w) (tv_up at' dn.toNat n) (tv_up bf dn.toNat was) (tv_up bh dn.toNat x) := by
  obtain ⟨⟨a1, a2, a3, a4, a5⟩, b, V, v1, v2, v3⟩ := h
  subst a1
  refine ⟨by omega, fun k hk => ?_, fun k t i => if k ≤ dn.toNat then V k t i else (if t = 0 then nd' i else mo' i), fun i hi => ?_, fun k i hk hi => ?_, fun k hk => ?_⟩
  · by_cases c : k = dn.toNat
    · subst c
      simp only [tu_same]
      exact ⟨⟨trivial, trivial, trivial, trivial⟩, c1, c2⟩
    · simp only [tu_ne c]
      exact b k (by omega)
  · simp (disch := omega) only [if_neg]
    exact ⟨if_pos trivial, trivial⟩
  · by_cases c : k ≤ dn.toNat
    · simp only [if_pos c]
      exact v2 k i (by omega) hi
    · simp only [if_neg c]
      exact hle i hi
  · by_cases c : k = dn.toNat
    · subst c
      simp only [tu_same]
      simp only [if_neg (show ¬ (dn.toNat + 1 ≤ dn.toNat) by omega), if_pos (Nat.le_refl _)]
      refine ⟨fun t i ht hi hq => ?_, fun t ht hq => ?_⟩
      · have t2 : t = 0 ∨ t = 1 := by omega
        unfold p_ch at c1
        rcases t2 with rfl | rfl
        · rw [if_pos rfl, n1 i hi, (v1 i hi).1, if_neg (by omega)]
        · rw [if_neg (by decide), m1 i hi, (v1 i hi).2, if_neg (by omega)]
      · have t2 : t = 0 ∨ t = 1 := by omega
        have hn : n.toNat < 10 := by unfold p_ch at c1; omega
        rcases t2 with rfl | rfl
        · rw [if_pos rfl, n1 _ hn, (v1 _ hn).1, if_pos ⟨by omega, rfl⟩]
          exact ⟨w1 (by omega), rfl⟩
        · rw [if_neg (by decide), m1 _ hn, (v1 _ hn).2, if_pos ⟨by omega, rfl⟩]
          exact ⟨w2 (by omega), rfl⟩
    · simp only [tu_ne c, if_pos (show k ≤ dn.toNat by omega), if_pos (show k + 1 ≤ dn.toNat by omega)]
      exact v3 k (by omega)
theorem p_chg_undo {pe hi de : Int} {nd mo nd' mo' : Nat → Int} {sz sd : Int} {nu wh wa be : Nat → Int} {dn un : Int} {of at' bf bh : Nat → Int} {k : Nat} (hk : (k : Int) = sd - 1) (hd : de ≤ 10) (h : p_chg pe hi de nd mo sz sd nu wh wa be dn un of at' bf bh)
    (n1 : ∀ i : Nat, i < 10 → nd' i = if wh k = 3 ∧ i = (nu k).toNat then wa k else nd i) (m1 : ∀ i : Nat, i < 10 → mo' i = if wh k = 4 ∧ i = (nu k).toNat then wa k else mo i) :
    p_chg pe hi de nd' mo' sz (sd - 1) nu wh wa be (dn - 1) (un + 1) of at' bf bh ∧ ∀ i : Nat, i < 10 → nd' i ≤ mo' i := by
  obtain ⟨⟨a1, a2, a3, a4, a5⟩, b, V, v1, v2, v3⟩ := h
  have ek : sd.toNat = k + 1 := by omega
  rw [ek] at v1
  have bk := (b k (by omega)).2.1
  unfold p_ch at bk
  have w0 : ∀ i : Nat, i < 10 → V k 0 i = nd' i := fun i hi => by
    rw [n1 i hi]
    by_cases c : wh k = 3 ∧ i = (nu k).toNat
    · rw [if_pos c, c.2]
      exact ((v3 k (by omega)).2 0 (by omega) (by omega)).1
    · rw [if_neg c, ← (v1 i hi).1]
      exact ((v3 k (by omega)).1 0 i (by omega) hi (by omega)).symm
  have w1 : ∀ i : Nat, i < 10 → V k 1 i = mo' i := fun i hi => by
    rw [m1 i hi]
    by_cases c : wh k = 4 ∧ i = (nu k).toNat
    · rw [if_pos c, c.2]
      exact ((v3 k (by omega)).2 1 (by omega) (by omega)).1
    · rw [if_neg c, ← (v1 i hi).2]
      exact ((v3 k (by omega)).1 1 i (by omega) hi (by omega)).symm
  have ek2 : (sd - 1).toNat = k := by omega
  refine ⟨⟨by omega, b, V, fun i hi => ?_, v2, v3⟩, fun i hi => ?_⟩
  · rw [ek2]
    exact ⟨w0 i hi, w1 i hi⟩
  · rw [← w0 i hi, ← w1 i hi]
    exact v2 k i (by omega) hi
theorem p_chg_redo {pe hi de : Int} {nd mo nd' mo' : Nat → Int} {sz sd : Int} {nu wh wa be : Nat → Int} {dn un : Int} {of at' bf bh : Nat → Int} {k : Nat} (hk : (k : Int) = sd) (hk2 : sd < sz) (hd : de ≤ 10) (h : p_chg pe hi de nd mo sz sd nu wh wa be dn un of at' bf bh)
    (n1 : ∀ i : Nat, i < 10 → nd' i = if wh k = 3 ∧ i = (nu k).toNat then be k else nd i) (m1 : ∀ i : Nat, i < 10 → mo' i = if wh k = 4 ∧ i = (nu k).toNat then be k else mo i) :
    p_chg pe hi de nd' mo' sz (sd + 1) nu wh wa be (dn + 1) (un - 1) of at' bf bh ∧ ∀ i : Nat, i < 10 → nd' i ≤ mo' i := by
  obtain ⟨⟨a1, a2, a3, a4, a5⟩, b, V, v1, v2, v3⟩ := h
  have ek : sd.toNat = k := by omega
  rw [ek] at v1
  have bk := (b k (by omega)).2.1
  unfold p_ch at bk
  have w0 : ∀ i : Nat, i < 10 → V (k + 1) 0 i = nd' i := fun i hi => by
    rw [n1 i hi]
    by_cases c : wh k = 3 ∧ i = (nu k).toNat
    · rw [if_pos c, c.2]
      exact ((v3 k (by omega)).2 0 (by omega) (by omega)).2
    · rw [if_neg c, ← (v1 i hi).1]
      exact ((v3 k (by omega)).1 0 i (by omega) hi (by omega))
  have w1 : ∀ i : Nat, i < 10 → V (k + 1) 1 i = mo' i := fun i hi => by
    rw [m1 i hi]
    by_cases c : wh k = 4 ∧ i = (nu k).toNat
    · rw [if_pos c, c.2]
      exact ((v3 k (by omega)).2 1 (by omega) (by omega)).2
    · rw [if_neg c, ← (v1 i hi).2]
      exact ((v3 k (by omega)).1 1 i (by omega) hi (by omega))
  have ek2 : (sd + 1).toNat = k + 1 := by omega
  refine ⟨⟨by omega, b, V, fun i hi => ?_, v2, v3⟩, fun i hi => ?_⟩
  · rw [ek2]
    exact ⟨w0 i hi, w1 i hi⟩
  · rw [← w0 i hi, ← w1 i hi]
    exact v2 (k + 1) i (by omega) hi
/-- undo -/
theorem st_33 : ls_33 lw_R := by
  intro Dc Dm _ hR
  obtain ⟨rl, rc, ro⟩ := rs_iff.mp hR
  obtain ⟨⟨⟨l1, l1a, l1b⟩, ⟨l2, l2a, l2b⟩, ⟨l3, l3a, l3b⟩, -⟩, -⟩ := id rl
  obtain ⟨⟨a1, a2, a3, a4, a5⟩, b, -⟩ := id rc
  unfold F_X11_undo F_X12_undo
  rw [a1]
  by_cases c0 : Dc 32 5 = 0
  · rw [if_pos c0, if_pos c0]
    exact lw_rt rfl hR
  rw [if_neg c0, if_neg c0]
  simp (disch := decide) only [td_ls, td_bs, tu_row, tu_at, tu_same, tu_ne]
  rw [tw_s (a := Dc 32 5 - 1) (by omega) (by omega), tw_s (a := Dm 1 12 + 1) (by omega) (by omega), if_pos (by omega), if_pos (by omega)]
  obtain ⟨k, hk⟩ : ∃ k : Nat, (k : Int) = Dc 32 5 - 1 := ⟨(Dc 32 5 - 1).toNat, by omega⟩
  have ek : (Dc 32 5 - 1).toNat = k := by omega
  obtain ⟨⟨f1, f2, f3, f4⟩, ch, -⟩ := b k (by omega)
  rw [ek, f1, f2, f3, fe_change ch l1b l2b l3b, fm_lays ch l1b l2b l3b, td_bs, td_bs]
  have K := fun i => ch_78 (D := td_upd Dc 32 5 (Dc 32 5 - 1)) ch i
  have M := cm_fr (D := td_upd (td_upd Dm 1 11 (Dc 32 5 - 1)) 1 12 (Dm 1 12 + 1)) ch
  obtain ⟨U1, U2⟩ := p_chg_undo hk l3b rc (fun i hi => (K i).1) (fun i hi => (K i).2.1)
  refine lw_rt ?_ (rs_iff.mpr ⟨rs_l_ch ?_ ?_ U2, ?_, rs_o_ch ?_ ch⟩)
  · rw [(K 0).2.2.2.2.2 32 (by omega), M 1 (by omega)]
    simp (disch := decide) only [td_ls, td_bs, tu_row, tu_at, tu_same, tu_ne]
  · unfold rs_l at *
    simp (disch := decide) only [td_ls, td_bs, tu_row, tu_at, tu_same, tu_ne]
    exact rl
  · simp (disch := decide) only [td_ls, td_bs, tu_row, tu_at, tu_same, tu_ne]
    exact ch
  · unfold rs_c
    rw [(K 0).2.2.1, (K 0).2.2.2.1, (K 0).2.2.2.2.1, (K 0).2.2.2.2.2 32 (by omega), (K 0).2.2.2.2.2 33 (by omega), (K 0).2.2.2.2.2 34 (by omega), (K 0).2.2.2.2.2 35 (by omega), (K 0).2.2.2.2.2 36 (by omega), M 1 (by omega), M 9 (by omega), M 10 (by omega), M 11 (by omega), M 12 (by omega)]
    rw [a1] at U1
    simp (disch := decide) only [td_ls, td_bs, tu_row, tu_at, tu_same, tu_ne]
    exact U1
  · unfold rs_o at *
    simp (disch := decide) only [td_ls, td_bs, tu_row, tu_at, tu_same, tu_ne]
    exact ro
/-- redo -/
theorem st_34 : ls_34 lw_R := by
  intro Dc Dm _ hR
  obtain ⟨rl, rc, ro⟩ := rs_iff.mp hR
  obtain ⟨⟨⟨l1, l1a, l1b⟩, ⟨l2, l2a, l2b⟩, ⟨l3, l3a, l3b⟩, -⟩, -⟩ := id rl
  obtain ⟨⟨a1, a2, a3, a4, a5⟩, b, -⟩ := id rc
  unfold F_X11_redo F_X12_redo
  by_cases c0 : Dc 32 4 ≤ Dc 32 5
  · simp (disch := omega) only [if_pos, if_neg]
    exact lw_rt rfl hR
  simp (disch := omega) only [if_pos, if_neg]
  rw [a1]
  obtain ⟨k, hk⟩ : ∃ k : Nat, (k : Int) = Dc 32 5 := ⟨(Dc 32 5).toNat, by omega⟩
  have ek : (Dc 32 5).toNat = k := by omega
  obtain ⟨⟨f1, f2, f3, f4⟩, -, ch⟩ := b k (by omega)
  rw [ek, f1, f2, f4, fe_change ch l1b l2b l3b, fm_lays ch l1b l2b l3b, td_bs, td_bs]
  have K := fun i => ch_78 (D := Dc) ch i
  have M := cm_fr (D := Dm) ch
  obtain ⟨U1, U2⟩ := p_chg_redo hk (by omega) l3b rc (fun i hi => (K i).1) (fun i hi => (K i).2.1)
  have R1 := rs_l_ch rl ch U2
  have R2 := rs_o_ch ro ch
  generalize hX : td_upd Dc (ch_r (Dc 34 k)) (ch_j (Dc 34 k) (Dc 33 k)) (Dc 36 k) = X at *
  generalize hY : td_upd Dm (cm_r (Dc 34 k)) (cm_j (Dc 34 k) (Dc 33 k)) (Dc 36 k) = Y at *
  have k32 := (K 0).2.2.2.2.2 32 (by omega)
  have m1 := M 1 (by omega)
  simp only [td_ls]
  have x5 : X 32 5 = Dc 32 5 := by rw [k32]
  have x4 : X 32 4 = Dc 32 4 := by rw [k32]
  have y11 : Y 1 11 = Dm 1 11 := by rw [m1]
  have y12 : Y 1 12 = Dm 1 12 := by rw [m1]
  simp (disch := decide) only [td_ls, td_bs, tu_row, tu_at, tu_same, tu_ne]
  rw [x5, x4, y11, y12, tw_s (a := Dc 32 5 + 1) (by omega) (by omega), tw_s (a := Dm 1 11 + 1) (by omega) (by omega), tw_s (a := Dm 1 12 - 1) (by omega) (by omega), tw_s (by omega) (by omega)]
  refine lw_rt (by omega) (rs_iff.mpr ⟨?_, ?_, ?_⟩)
  · unfold rs_l at *
    simp (disch := decide) only [td_ls, td_bs, tu_row, tu_at, tu_same, tu_ne]
    exact R1
  · unfold rs_c
    simp (disch := decide) only [td_ls, td_bs, tu_row, tu_at, tu_same, tu_ne]
    rw [(K 0).2.2.1, (K 0).2.2.2.1, (K 0).2.2.2.2.1, k32, (K 0).2.2.2.2.2 33 (by omega), (K 0).2.2.2.2.2 34 (by omega), (K 0).2.2.2.2.2 35 (by omega), (K 0).2.2.2.2.2 36 (by omega), M 9 (by omega), M 10 (by omega), M 11 (by omega), M 12 (by omega)]
    exact U1
  · unfold rs_o at *
    simp (disch := decide) only [td_ls, td_bs, tu_row, tu_at, tu_same, tu_ne]
    exact R2
