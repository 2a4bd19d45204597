/-- the memories behind the constructors -/
def mc_0 : tv_M := ([(11, 14)], fun _ _ => 0)
def mc_1 : tv_M := match C_X11_init 0 mc_0 with
  | some q => q.2
  | none => mc_0
def mm_0 : tv_M := ([(12, 58)], fun _ _ => 0)
def mm_1 : tv_M := match C_X12_init 0 mm_0 with
  | some q => q.2
  | none => mm_0
theorem st_get {x : Option (Int × tv_M)} {M0 : tv_M} (h : x.map (fun q => q.1) = some 0) : x = some (0, match x with
  | some q => q.2
  | none => M0) := by
  cases x with
  | none => cases h
  | some q =>
    obtain ⟨r, M⟩ := q
    simp at h
    subst h
    rfl
theorem mc_run : C_X11_init 0 mc_0 = some (0, mc_1) := st_get (M0 := mc_0) (by decide +kernel)
theorem mm_run : C_X12_init 0 mm_0 = some (0, mm_1) := st_get (M0 := mm_0) (by decide +kernel)
theorem mc_sh : mc_1.1 = sh_c := by decide +kernel
theorem mm_sh : mm_1.1 = sh_m := by decide +kernel
def dc_0 : td_D := mc_1.2
def dm_0 : td_D := mm_1.2
theorem rf_c_big {r k : Nat} (h : 59 ≤ r ∨ 15 ≤ k) : rf_c r k = none := by
  unfold rf_c
  split <;> (try dsimp only) <;> (first | rfl | (split <;> first | rfl | omega) | (rw [if_neg (by omega)]))
theorem rf_m_big {r k : Nat} (h : 41 ≤ r ∨ 58 ≤ k) : rf_m r k = none := by
  unfold rf_m
  split <;> (try dsimp only) <;> (first | rfl | (split <;> first | rfl | omega) | (rw [if_neg (by omega)]))
theorem rf_c_ok : ∀ r : Fin 59, ∀ k : Fin 15, (match rf_c r k with
  | some q => decide (dc_0 r k = (q : Int))
  | none => true) = true := by decide +kernel
theorem rf_m_ok : ∀ r : Fin 41, ∀ k : Fin 58, (match rf_m r k with
  | some q => decide (dm_0 r k = (q : Int))
  | none => true) = true := by decide +kernel
theorem mc_eq : mc_1 = td_m g_c dc_0 := by
  unfold td_m
  refine Prod.ext mc_sh ?_
  funext r k
  show dc_0 r k = match rf_c r k with
    | some q => (q : Int)
    | none => dc_0 r k
  by_cases h : 59 ≤ r ∨ 15 ≤ k
  · rw [rf_c_big h]
  · have h2 := rf_c_ok ⟨r, by omega⟩ ⟨k, by omega⟩
    dsimp only at h2
    split
    · rename_i q hq
      rw [hq] at h2
      simpa using h2
    · rfl
theorem mm_eq : mm_1 = td_m g_m dm_0 := by
  unfold td_m
  refine Prod.ext mm_sh ?_
  funext r k
  show dm_0 r k = match rf_m r k with
    | some q => (q : Int)
    | none => dm_0 r k
  by_cases h : 41 ≤ r ∨ 58 ≤ k
  · rw [rf_m_big h]
  · have h2 := rf_m_ok ⟨r, by omega⟩ ⟨k, by omega⟩
    dsimp only at h2
    split
    · rename_i q hq
      rw [hq] at h2
      simpa using h2
    · rfl
