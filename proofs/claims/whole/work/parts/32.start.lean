/-- the memories behind the constructors -/
def mc_0 : tv_M := ([(11, 15)], fun _ _ => 0)
def mc_1 : tv_M := match C_X11_init 0 mc_0 with
  | some q => q.2
  | none => mc_0
def mm_0 : tv_M := ([(12, 58)], fun _ _ => 0)
def mm_1 : tv_M := match C_X12_init 0 mm_0 with
  | some q => q.2
  | none => mm_0
theorem st_get {x : Option (Int × tv_M)} {M0 : tv_M} (h : x.map (fun q => q.1) = some 0) : x = some (0, match x with
  | some q => q.2
  | none => M0) := by
  cases x with
  | none => cases h
  | some q =>
    obtain ⟨r, M⟩ := q
    simp at h
    subst h
    rfl
theorem mc_run : C_X11_init 0 mc_0 = some (0, mc_1) := st_get (M0 := mc_0) (by decide +kernel)
theorem mm_run : C_X12_init 0 mm_0 = some (0, mm_1) := st_get (M0 := mm_0) (by decide +kernel)
theorem mc_len : mc_1.1.length = 59 := by decide +kernel
theorem mc_sh : ∀ k : Fin 59, mc_1.1[pm_c k]? = sh_c[(k : Nat)]? := by decide +kernel
theorem mm_sh : mm_1.1 = sh_m := by decide +kernel
def dc_0 : td_D := fun r k => mc_1.2 (pm_r r) k
def dm_0 : td_D := mm_1.2
theorem rf_c_big {r k : Nat} (h : 60 ≤ r ∨ 16 ≤ k) : rf_c r k = none := by
  unfold rf_c
  split <;> (try dsimp only) <;> (first | rfl | (split <;> first | rfl | omega) | (rw [if_neg (by omega)]))
theorem rf_m_big {r k : Nat} (h : 41 ≤ r ∨ 58 ≤ k) : rf_m r k = none := by
  unfold rf_m
  split <;> (try dsimp only) <;> (first | rfl | (split <;> first | rfl | omega) | (rw [if_neg (by omega)]))
def tv_isr (c j : Nat) : Bool := if c < 20 then tv_isR (tv_ty c j) else decide (25 ≤ c)
theorem rf_c_ok : ∀ r : Fin 59, ∀ k : Fin 16, (match sh_c[(r : Nat)]? with
  | some q => decide (q.2 ≤ (k : Nat)) || (match rf_c (r + 1) k with
    | some z => tv_isr q.1 k && decide (mc_1.2 (pm_c r + 1) k = ((pm_r z : Nat) : Int))
    | none => !tv_isr q.1 k || decide ((mc_1.2 (pm_c r + 1) k).toNat = pm_r (mc_1.2 (pm_c r + 1) k).toNat))
  | none => false) = true := by decide +kernel
theorem rf_c_far : ∀ r : Fin 59, (match sh_c[(r : Nat)]? with
  | some q => decide (q.2 ≤ 16) || (decide (20 ≤ q.1) && decide (q.1 < 25))
  | none => false) = true := by decide +kernel
theorem rf_c_lt0 : ∀ r : Fin 60, ∀ k : Fin 16, (match rf_c r k with
  | some z => decide (z < 60)
  | none => true) = true := by decide +kernel
theorem rf_c_lt {r k z : Nat} (h : rf_c r k = some z) : z < 60 := by
  by_cases hb : 60 ≤ r ∨ 16 ≤ k
  · rw [rf_c_big hb] at h; cases h
  · have h2 := rf_c_lt0 ⟨r, by omega⟩ ⟨k, by omega⟩
    dsimp only at h2
    rw [h] at h2
    simpa using h2
theorem rf_m_ok : ∀ r : Fin 41, ∀ k : Fin 58, (match rf_m r k with
  | some q => decide (dm_0 r k = (q : Int))
  | none => true) = true := by decide +kernel
/-- the memory by its own numbers holds what is in range -/
theorem dc_ok (h : tv_okM mc_1) : tv_okM (td_m g_c dc_0) := by
  intro k c n hk j
  have hk2 : sh_c[k]? = some (c, n) := hk
  have hi : k < 59 := (List.getElem?_eq_some_iff.mp hk2).1
  have h1 := h (pm_c k) c n ((mc_sh ⟨k, hi⟩).trans hk2) j
  show if c = 24 then tv_inl (match rf_c (k + 1) j with
    | some q => (q : Int)
    | none => dc_0 (k + 1) j) else tv_in (match rf_c (k + 1) j with
    | some q => (q : Int)
    | none => dc_0 (k + 1) j)
  cases hq : rf_c (k + 1) j with
  | none => exact h1
  | some z =>
    have hz := rf_c_lt hq
    unfold tv_inl tv_in
    dsimp only
    split <;> omega
theorem arr_alike {cI : ClassId} {N : Nat} {f g : Nat → Value} (h : ∀ j, j < N → f j = g j) : arrV cI N f = arrV cI N g := by
  unfold arrV
  rw [show (fun j : Fin N => f j.val) = fun j => g j.val from funext fun j => h _ j.isLt]
/-- a cell, told by other numbers -/
theorem tv_relab {E E' : tv_E} {c n a : Nat} {f g : Nat → Int} {H : Heap} {G : va_G} (hca : tv_ca E' = tv_ca E) (had : ∀ k, tv_ad E' k = tv_ad E (pm_c k)) (h : ∀ j, j < n → if tv_isr c j = true then (f j).toNat = pm_r (g j).toNat else f j = g j) (hp : va_at G vwCl (a, tv_cell E c n f) H) : va_at G vwCl (a, tv_cell E' c n g) H := by
  have hR : ∀ r, tv_v E' (tv_R r) = tv_v E (tv_R (pm_r r)) := by
    intro r
    cases r with
    | zero => rfl
    | succ k => show Value.ref (tv_ad E' k) = Value.ref (tv_ad E (pm_c k)); rw [had]
  have hF : ∀ x y : Int, x.toNat = pm_r y.toNat → tv_rf E x = tv_rf E' y := by
    intro x y hxy
    unfold tv_rf
    rw [hxy]
    cases y.toNat with
    | zero => rfl
    | succ k => show some (tv_ad E (pm_c k)) = some (tv_ad E' k); rw [had]
  by_cases h1 : c < 20
  · rw [tv_cell_obj h1] at hp ⊢
    have e : (List.range n).map (fun j => tv_fv E' (tv_ty c j) (g j)) = (List.range n).map (fun j => tv_fv E (tv_ty c j) (f j)) := by
      apply List.map_congr_left
      intro j hj
      have h2 := h j (List.mem_range.mp hj)
      unfold tv_isr at h2
      rw [if_pos h1] at h2
      unfold tv_fv
      by_cases h3 : tv_isR (tv_ty c j) = true
      · rw [if_pos h3] at h2
        rw [if_pos h3, if_pos h3, hR, h2]
      · rw [if_neg h3] at h2
        rw [if_neg h3, if_neg h3, h2]
    rw [e]
    exact hp
  · have h2 : ∀ j, j < n → tv_isr c j = decide (25 ≤ c) := fun j _ => by unfold tv_isr; rw [if_neg h1]
    unfold tv_cell at hp ⊢
    rw [if_neg h1] at hp ⊢
    by_cases h3 : c < 24
    · rw [if_pos h3] at hp ⊢
      rw [hca]
      have hp : H[a]? = some (vp_cell _ _) := hp
      show H[a]? = some (vp_cell _ _)
      rw [vp_cell_i] at hp ⊢
      rw [hp]
      congr 1
      refine arr_alike fun j hj => ?_
      have h4 := h j hj
      rw [h2 j hj, if_neg (by simp; omega)] at h4
      rw [h4]
    · rw [if_neg h3] at hp ⊢
      by_cases h4 : c = 24
      · rw [if_pos h4] at hp ⊢
        rw [hca]
        have hp : H[a]? = some (vp_cell _ _) := hp
        show H[a]? = some (vp_cell _ _)
        rw [vp_cell_l] at hp ⊢
        rw [hp]
        congr 1
        refine arr_alike fun j hj => ?_
        have h5 := h j hj
        rw [h2 j hj, if_neg (by simp; omega)] at h5
        rw [h5]
      · rw [if_neg h4] at hp ⊢
        rw [hca]
        have hp : H[a]? = some (vp_cell _ _) := hp
        show H[a]? = some (vp_cell _ _)
        rw [vp_cell_q] at hp ⊢
        rw [hp]
        congr 1
        refine arr_alike fun j hj => ?_
        have h5 := h j hj
        rw [h2 j hj, if_pos (by simp; omega)] at h5
        rw [hF _ _ h5]
theorem dc_row : ∀ i c n : Nat, sh_c[i]? = some (c, n) → ∀ j, j < n → if tv_isr c j = true then (mc_1.2 (pm_c i + 1) j).toNat = pm_r ((td_m g_c dc_0).2 (i + 1) j).toNat else mc_1.2 (pm_c i + 1) j = (td_m g_c dc_0).2 (i + 1) j := by
  intro i c n hs j hj
  have hi : i < 59 := (List.getElem?_eq_some_iff.mp hs).1
  have hD : (td_m g_c dc_0).2 (i + 1) j = match rf_c (i + 1) j with
    | some q => (q : Int)
    | none => mc_1.2 (pm_c i + 1) j := rfl
  rw [hD]
  by_cases hk : j < 16
  · have h := rf_c_ok ⟨i, hi⟩ ⟨j, hk⟩
    dsimp only at h
    rw [hs] at h
    have hn : decide (n ≤ j) = false := by simp; omega
    dsimp only at h
    rw [hn, Bool.false_or] at h
    cases hq : rf_c (i + 1) j with
    | none =>
      rw [hq] at h
      dsimp only at h ⊢
      cases hr : tv_isr c j with
      | true =>
        rw [hr] at h
        rw [if_pos rfl]
        simpa using h
      | false => rw [if_neg (by decide)]
    | some z =>
      rw [hq] at h
      dsimp only at h ⊢
      simp only [Bool.and_eq_true, decide_eq_true_eq] at h
      rw [if_pos h.1, h.2, Int.toNat_natCast, Int.toNat_natCast]
  · rw [rf_c_big (Or.inr (by omega))]
    have h := rf_c_far ⟨i, hi⟩
    dsimp only at h
    rw [hs] at h
    simp only [Bool.or_eq_true, Bool.and_eq_true, decide_eq_true_eq] at h
    have hc : 20 ≤ c ∧ c < 25 := by omega
    rw [if_neg (by unfold tv_isr; rw [if_neg (by omega)]; simp; omega)]
/-- the component's cells behind its constructor, told by their own numbers -/
theorem dc_wd {E E' : tv_E} {H : Heap} (hG : tv_G E' = tv_G E) (hca : tv_ca E' = tv_ca E) (had : ∀ k, tv_ad E' k = tv_ad E (pm_c k)) (hw : va_P (tv_G E) vwCl (tv_ws E mc_1) H) : va_P (tv_G E') vwCl (tv_ws E' (td_m g_c dc_0)) H := by
  intro i q hq
  have hi : i < 59 := (tv_ws_inv hq).1
  obtain ⟨⟨c, n⟩, hs⟩ : ∃ z, sh_c[i]? = some z := ⟨_, List.getElem?_eq_getElem hi⟩
  have e := tv_ws_at (E := E') (M := td_m g_c dc_0) (k := i) hs
  have e2 : q = _ := Option.some.inj (hq.symm.trans e)
  have hp := hw (pm_c i) _ (tv_ws_at (E := E) (M := mc_1) ((mc_sh ⟨i, hi⟩).trans hs))
  rw [e2, had, hG]
  exact tv_relab hca had (dc_row i c n hs) hp
theorem mm_eq : mm_1 = td_m g_m dm_0 := by
  unfold td_m
  refine Prod.ext mm_sh ?_
  funext r k
  show dm_0 r k = match rf_m r k with
    | some q => (q : Int)
    | none => dm_0 r k
  by_cases h : 41 ≤ r ∨ 58 ≤ k
  · rw [rf_m_big h]
  · have h2 := rf_m_ok ⟨r, by omega⟩ ⟨k, by omega⟩
    dsimp only at h2
    split
    · rename_i q hq
      rw [hq] at h2
      simpa using h2
    · rfl
