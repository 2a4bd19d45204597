def sh_c : List (Nat × Nat) := [(11, 15), (3, 13), (20, 6), (20, 5), (7, 1), (20, 30), (20, 10), (20, 10), (20, 10), (9, 4), (20, 120), (1, 4), (20, 128), (20, 128), (20, 128), (1, 4), (20, 128), (20, 128), (20, 128), (20, 6), (7, 1), (20, 30), (10, 3), (20, 100), (20, 100), (20, 100), (4, 1), (20, 704), (5, 4), (20, 20), (20, 20), (0, 6), (20, 40), (20, 40), (20, 40), (20, 40), (2, 5), (20, 6), (7, 1), (20, 30), (20, 6), (20, 6), (8, 5), (20, 50), (20, 24), (25, 6), (6, 4), (24, 60), (6, 4), (24, 60), (6, 4), (24, 60), (6, 4), (24, 60), (6, 4), (24, 60), (6, 4), (24, 60), (20, 150)]
def rf_c (r : Nat) : Nat → Option Nat := match r with
  | 1 => fun k => match k with
    | 0 => some 2
    | 1 => some 10
    | 4 => some 20
    | 5 => some 21
    | 6 => some 59
    | 7 => some 23
    | 8 => some 27
    | 9 => some 29
    | 10 => some 32
    | 11 => some 37
    | 12 => some 42
    | 13 => some 43
    | 14 => some 46
    | _ => none
  | 2 => fun k => match k with
    | 3 => some 3
    | 4 => some 4
    | 5 => some 5
    | 6 => some 7
    | 7 => some 8
    | 8 => some 9
    | _ => none
  | 5 => fun k => match k with
    | 0 => some 6
    | _ => none
  | 10 => fun k => match k with
    | 0 => some 11
    | _ => none
  | 12 => fun k => match k with
    | 0 => some 13
    | 1 => some 14
    | 2 => some 15
    | _ => none
  | 16 => fun k => match k with
    | 0 => some 17
    | 1 => some 18
    | 2 => some 19
    | _ => none
  | 21 => fun k => match k with
    | 0 => some 22
    | _ => none
  | 23 => fun k => match k with
    | 0 => some 24
    | 1 => some 25
    | 2 => some 26
    | _ => none
  | 27 => fun k => match k with
    | 0 => some 28
    | _ => none
  | 29 => fun k => match k with
    | 0 => some 30
    | 1 => some 31
    | _ => none
  | 32 => fun k => match k with
    | 0 => some 33
    | 1 => some 34
    | 2 => some 35
    | 3 => some 36
    | _ => none
  | 37 => fun k => match k with
    | 2 => some 38
    | 3 => some 39
    | 4 => some 41
    | _ => none
  | 39 => fun k => match k with
    | 0 => some 40
    | _ => none
  | 43 => fun k => match k with
    | 0 => some 44
    | 2 => some 45
    | _ => none
  | 46 => fun k => if k < 6 then some (47 + 2 * k) else none
  | 47 => fun k => match k with
    | 3 => some 48
    | _ => none
  | 49 => fun k => match k with
    | 3 => some 50
    | _ => none
  | 51 => fun k => match k with
    | 3 => some 52
    | _ => none
  | 53 => fun k => match k with
    | 3 => some 54
    | _ => none
  | 55 => fun k => match k with
    | 3 => some 56
    | _ => none
  | 57 => fun k => match k with
    | 3 => some 58
    | _ => none
  | _ => fun _ => none
def g_c : td_G := (sh_c, rf_c)
theorem ga_c_1 : td_at g_c 1 = (11, 15) := rfl
theorem ga_c_2 : td_at g_c 2 = (3, 13) := rfl
theorem ga_c_3 : td_at g_c 3 = (20, 6) := rfl
theorem gn_c_3 : ∀ j, g_c.2 3 j = none := fun _ => rfl
theorem ga_c_4 : td_at g_c 4 = (20, 5) := rfl
theorem gn_c_4 : ∀ j, g_c.2 4 j = none := fun _ => rfl
theorem ga_c_5 : td_at g_c 5 = (7, 1) := rfl
theorem ga_c_6 : td_at g_c 6 = (20, 30) := rfl
theorem gn_c_6 : ∀ j, g_c.2 6 j = none := fun _ => rfl
theorem ga_c_7 : td_at g_c 7 = (20, 10) := rfl
theorem gn_c_7 : ∀ j, g_c.2 7 j = none := fun _ => rfl
theorem ga_c_8 : td_at g_c 8 = (20, 10) := rfl
theorem gn_c_8 : ∀ j, g_c.2 8 j = none := fun _ => rfl
theorem ga_c_9 : td_at g_c 9 = (20, 10) := rfl
theorem gn_c_9 : ∀ j, g_c.2 9 j = none := fun _ => rfl
theorem ga_c_10 : td_at g_c 10 = (9, 4) := rfl
theorem ga_c_11 : td_at g_c 11 = (20, 120) := rfl
theorem gn_c_11 : ∀ j, g_c.2 11 j = none := fun _ => rfl
theorem ga_c_12 : td_at g_c 12 = (1, 4) := rfl
theorem ga_c_13 : td_at g_c 13 = (20, 128) := rfl
theorem gn_c_13 : ∀ j, g_c.2 13 j = none := fun _ => rfl
theorem ga_c_14 : td_at g_c 14 = (20, 128) := rfl
theorem gn_c_14 : ∀ j, g_c.2 14 j = none := fun _ => rfl
theorem ga_c_15 : td_at g_c 15 = (20, 128) := rfl
theorem gn_c_15 : ∀ j, g_c.2 15 j = none := fun _ => rfl
theorem ga_c_16 : td_at g_c 16 = (1, 4) := rfl
theorem ga_c_17 : td_at g_c 17 = (20, 128) := rfl
theorem gn_c_17 : ∀ j, g_c.2 17 j = none := fun _ => rfl
theorem ga_c_18 : td_at g_c 18 = (20, 128) := rfl
theorem gn_c_18 : ∀ j, g_c.2 18 j = none := fun _ => rfl
theorem ga_c_19 : td_at g_c 19 = (20, 128) := rfl
theorem gn_c_19 : ∀ j, g_c.2 19 j = none := fun _ => rfl
theorem ga_c_20 : td_at g_c 20 = (20, 6) := rfl
theorem gn_c_20 : ∀ j, g_c.2 20 j = none := fun _ => rfl
theorem ga_c_21 : td_at g_c 21 = (7, 1) := rfl
theorem ga_c_22 : td_at g_c 22 = (20, 30) := rfl
theorem gn_c_22 : ∀ j, g_c.2 22 j = none := fun _ => rfl
theorem ga_c_23 : td_at g_c 23 = (10, 3) := rfl
theorem ga_c_24 : td_at g_c 24 = (20, 100) := rfl
theorem gn_c_24 : ∀ j, g_c.2 24 j = none := fun _ => rfl
theorem ga_c_25 : td_at g_c 25 = (20, 100) := rfl
theorem gn_c_25 : ∀ j, g_c.2 25 j = none := fun _ => rfl
theorem ga_c_26 : td_at g_c 26 = (20, 100) := rfl
theorem gn_c_26 : ∀ j, g_c.2 26 j = none := fun _ => rfl
theorem ga_c_27 : td_at g_c 27 = (4, 1) := rfl
theorem ga_c_28 : td_at g_c 28 = (20, 704) := rfl
theorem gn_c_28 : ∀ j, g_c.2 28 j = none := fun _ => rfl
theorem ga_c_29 : td_at g_c 29 = (5, 4) := rfl
theorem ga_c_30 : td_at g_c 30 = (20, 20) := rfl
theorem gn_c_30 : ∀ j, g_c.2 30 j = none := fun _ => rfl
theorem ga_c_31 : td_at g_c 31 = (20, 20) := rfl
theorem gn_c_31 : ∀ j, g_c.2 31 j = none := fun _ => rfl
theorem ga_c_32 : td_at g_c 32 = (0, 6) := rfl
theorem ga_c_33 : td_at g_c 33 = (20, 40) := rfl
theorem gn_c_33 : ∀ j, g_c.2 33 j = none := fun _ => rfl
theorem ga_c_34 : td_at g_c 34 = (20, 40) := rfl
theorem gn_c_34 : ∀ j, g_c.2 34 j = none := fun _ => rfl
theorem ga_c_35 : td_at g_c 35 = (20, 40) := rfl
theorem gn_c_35 : ∀ j, g_c.2 35 j = none := fun _ => rfl
theorem ga_c_36 : td_at g_c 36 = (20, 40) := rfl
theorem gn_c_36 : ∀ j, g_c.2 36 j = none := fun _ => rfl
theorem ga_c_37 : td_at g_c 37 = (2, 5) := rfl
theorem ga_c_38 : td_at g_c 38 = (20, 6) := rfl
theorem gn_c_38 : ∀ j, g_c.2 38 j = none := fun _ => rfl
theorem ga_c_39 : td_at g_c 39 = (7, 1) := rfl
theorem ga_c_40 : td_at g_c 40 = (20, 30) := rfl
theorem gn_c_40 : ∀ j, g_c.2 40 j = none := fun _ => rfl
theorem ga_c_41 : td_at g_c 41 = (20, 6) := rfl
theorem gn_c_41 : ∀ j, g_c.2 41 j = none := fun _ => rfl
theorem ga_c_42 : td_at g_c 42 = (20, 6) := rfl
theorem gn_c_42 : ∀ j, g_c.2 42 j = none := fun _ => rfl
theorem ga_c_43 : td_at g_c 43 = (8, 5) := rfl
theorem ga_c_44 : td_at g_c 44 = (20, 50) := rfl
theorem gn_c_44 : ∀ j, g_c.2 44 j = none := fun _ => rfl
theorem ga_c_45 : td_at g_c 45 = (20, 24) := rfl
theorem gn_c_45 : ∀ j, g_c.2 45 j = none := fun _ => rfl
theorem ga_c_46 : td_at g_c 46 = (25, 6) := rfl
theorem ga_c_47 : td_at g_c 47 = (6, 4) := rfl
theorem ga_c_48 : td_at g_c 48 = (24, 60) := rfl
theorem gn_c_48 : ∀ j, g_c.2 48 j = none := fun _ => rfl
theorem ga_c_49 : td_at g_c 49 = (6, 4) := rfl
theorem ga_c_50 : td_at g_c 50 = (24, 60) := rfl
theorem gn_c_50 : ∀ j, g_c.2 50 j = none := fun _ => rfl
theorem ga_c_51 : td_at g_c 51 = (6, 4) := rfl
theorem ga_c_52 : td_at g_c 52 = (24, 60) := rfl
theorem gn_c_52 : ∀ j, g_c.2 52 j = none := fun _ => rfl
theorem ga_c_53 : td_at g_c 53 = (6, 4) := rfl
theorem ga_c_54 : td_at g_c 54 = (24, 60) := rfl
theorem gn_c_54 : ∀ j, g_c.2 54 j = none := fun _ => rfl
theorem ga_c_55 : td_at g_c 55 = (6, 4) := rfl
theorem ga_c_56 : td_at g_c 56 = (24, 60) := rfl
theorem gn_c_56 : ∀ j, g_c.2 56 j = none := fun _ => rfl
theorem ga_c_57 : td_at g_c 57 = (6, 4) := rfl
theorem ga_c_58 : td_at g_c 58 = (24, 60) := rfl
theorem gn_c_58 : ∀ j, g_c.2 58 j = none := fun _ => rfl
theorem ga_c_59 : td_at g_c 59 = (20, 150) := rfl
theorem gn_c_59 : ∀ j, g_c.2 59 j = none := fun _ => rfl
def sh_m : List (Nat × Nat) := [(12, 58), (20, 6), (20, 6), (20, 30), (20, 10), (20, 10), (20, 10), (20, 4), (20, 40), (20, 40), (20, 40), (20, 40), (21, 120), (21, 260), (20, 260), (20, 2), (22, 122), (22, 122), (20, 6), (20, 130), (20, 30), (20, 6), (20, 20), (20, 20), (20, 704), (20, 100), (20, 100), (20, 100), (23, 100), (23, 100), (20, 6), (20, 6), (20, 30), (20, 6), (20, 50), (20, 24), (20, 6), (20, 6), (24, 360), (24, 60)]
def rf_m (r : Nat) : Nat → Option Nat := match r with
  | 1 => fun k => match k with
    | 2 => some 2
    | 4 => some 3
    | 5 => some 4
    | 7 => some 5
    | 8 => some 6
    | 9 => some 7
    | 10 => some 8
    | 13 => some 9
    | 14 => some 10
    | 15 => some 11
    | 16 => some 12
    | 17 => some 13
    | 23 => some 14
    | 24 => some 15
    | 25 => some 16
    | 26 => some 17
    | 27 => some 18
    | 28 => some 19
    | 29 => some 20
    | 31 => some 21
    | 32 => some 22
    | 33 => some 23
    | 34 => some 24
    | 37 => some 25
    | 38 => some 26
    | 39 => some 27
    | 40 => some 28
    | 41 => some 29
    | 42 => some 30
    | 43 => some 31
    | 47 => some 32
    | 48 => some 33
    | 49 => some 34
    | 51 => some 35
    | 53 => some 36
    | 54 => some 37
    | 55 => some 38
    | 56 => some 39
    | 57 => some 40
    | _ => none
  | _ => fun _ => none
def g_m : td_G := (sh_m, rf_m)
theorem ga_m_1 : td_at g_m 1 = (12, 58) := rfl
theorem ga_m_2 : td_at g_m 2 = (20, 6) := rfl
theorem gn_m_2 : ∀ j, g_m.2 2 j = none := fun _ => rfl
theorem ga_m_3 : td_at g_m 3 = (20, 6) := rfl
theorem gn_m_3 : ∀ j, g_m.2 3 j = none := fun _ => rfl
theorem ga_m_4 : td_at g_m 4 = (20, 30) := rfl
theorem gn_m_4 : ∀ j, g_m.2 4 j = none := fun _ => rfl
theorem ga_m_5 : td_at g_m 5 = (20, 10) := rfl
theorem gn_m_5 : ∀ j, g_m.2 5 j = none := fun _ => rfl
theorem ga_m_6 : td_at g_m 6 = (20, 10) := rfl
theorem gn_m_6 : ∀ j, g_m.2 6 j = none := fun _ => rfl
theorem ga_m_7 : td_at g_m 7 = (20, 10) := rfl
theorem gn_m_7 : ∀ j, g_m.2 7 j = none := fun _ => rfl
theorem ga_m_8 : td_at g_m 8 = (20, 4) := rfl
theorem gn_m_8 : ∀ j, g_m.2 8 j = none := fun _ => rfl
theorem ga_m_9 : td_at g_m 9 = (20, 40) := rfl
theorem gn_m_9 : ∀ j, g_m.2 9 j = none := fun _ => rfl
theorem ga_m_10 : td_at g_m 10 = (20, 40) := rfl
theorem gn_m_10 : ∀ j, g_m.2 10 j = none := fun _ => rfl
theorem ga_m_11 : td_at g_m 11 = (20, 40) := rfl
theorem gn_m_11 : ∀ j, g_m.2 11 j = none := fun _ => rfl
theorem ga_m_12 : td_at g_m 12 = (20, 40) := rfl
theorem gn_m_12 : ∀ j, g_m.2 12 j = none := fun _ => rfl
theorem ga_m_13 : td_at g_m 13 = (21, 120) := rfl
theorem gn_m_13 : ∀ j, g_m.2 13 j = none := fun _ => rfl
theorem ga_m_14 : td_at g_m 14 = (21, 260) := rfl
theorem gn_m_14 : ∀ j, g_m.2 14 j = none := fun _ => rfl
theorem ga_m_15 : td_at g_m 15 = (20, 260) := rfl
theorem gn_m_15 : ∀ j, g_m.2 15 j = none := fun _ => rfl
theorem ga_m_16 : td_at g_m 16 = (20, 2) := rfl
theorem gn_m_16 : ∀ j, g_m.2 16 j = none := fun _ => rfl
theorem ga_m_17 : td_at g_m 17 = (22, 122) := rfl
theorem gn_m_17 : ∀ j, g_m.2 17 j = none := fun _ => rfl
theorem ga_m_18 : td_at g_m 18 = (22, 122) := rfl
theorem gn_m_18 : ∀ j, g_m.2 18 j = none := fun _ => rfl
theorem ga_m_19 : td_at g_m 19 = (20, 6) := rfl
theorem gn_m_19 : ∀ j, g_m.2 19 j = none := fun _ => rfl
theorem ga_m_20 : td_at g_m 20 = (20, 130) := rfl
theorem gn_m_20 : ∀ j, g_m.2 20 j = none := fun _ => rfl
theorem ga_m_21 : td_at g_m 21 = (20, 30) := rfl
theorem gn_m_21 : ∀ j, g_m.2 21 j = none := fun _ => rfl
theorem ga_m_22 : td_at g_m 22 = (20, 6) := rfl
theorem gn_m_22 : ∀ j, g_m.2 22 j = none := fun _ => rfl
theorem ga_m_23 : td_at g_m 23 = (20, 20) := rfl
theorem gn_m_23 : ∀ j, g_m.2 23 j = none := fun _ => rfl
theorem ga_m_24 : td_at g_m 24 = (20, 20) := rfl
theorem gn_m_24 : ∀ j, g_m.2 24 j = none := fun _ => rfl
theorem ga_m_25 : td_at g_m 25 = (20, 704) := rfl
theorem gn_m_25 : ∀ j, g_m.2 25 j = none := fun _ => rfl
theorem ga_m_26 : td_at g_m 26 = (20, 100) := rfl
theorem gn_m_26 : ∀ j, g_m.2 26 j = none := fun _ => rfl
theorem ga_m_27 : td_at g_m 27 = (20, 100) := rfl
theorem gn_m_27 : ∀ j, g_m.2 27 j = none := fun _ => rfl
theorem ga_m_28 : td_at g_m 28 = (20, 100) := rfl
theorem gn_m_28 : ∀ j, g_m.2 28 j = none := fun _ => rfl
theorem ga_m_29 : td_at g_m 29 = (23, 100) := rfl
theorem gn_m_29 : ∀ j, g_m.2 29 j = none := fun _ => rfl
theorem ga_m_30 : td_at g_m 30 = (23, 100) := rfl
theorem gn_m_30 : ∀ j, g_m.2 30 j = none := fun _ => rfl
theorem ga_m_31 : td_at g_m 31 = (20, 6) := rfl
theorem gn_m_31 : ∀ j, g_m.2 31 j = none := fun _ => rfl
theorem ga_m_32 : td_at g_m 32 = (20, 6) := rfl
theorem gn_m_32 : ∀ j, g_m.2 32 j = none := fun _ => rfl
theorem ga_m_33 : td_at g_m 33 = (20, 30) := rfl
theorem gn_m_33 : ∀ j, g_m.2 33 j = none := fun _ => rfl
theorem ga_m_34 : td_at g_m 34 = (20, 6) := rfl
theorem gn_m_34 : ∀ j, g_m.2 34 j = none := fun _ => rfl
theorem ga_m_35 : td_at g_m 35 = (20, 50) := rfl
theorem gn_m_35 : ∀ j, g_m.2 35 j = none := fun _ => rfl
theorem ga_m_36 : td_at g_m 36 = (20, 24) := rfl
theorem gn_m_36 : ∀ j, g_m.2 36 j = none := fun _ => rfl
theorem ga_m_37 : td_at g_m 37 = (20, 6) := rfl
theorem gn_m_37 : ∀ j, g_m.2 37 j = none := fun _ => rfl
theorem ga_m_38 : td_at g_m 38 = (20, 6) := rfl
theorem gn_m_38 : ∀ j, g_m.2 38 j = none := fun _ => rfl
theorem ga_m_39 : td_at g_m 39 = (24, 360) := rfl
theorem gn_m_39 : ∀ j, g_m.2 39 j = none := fun _ => rfl
theorem ga_m_40 : td_at g_m 40 = (24, 60) := rfl
theorem gn_m_40 : ∀ j, g_m.2 40 j = none := fun _ => rfl
/-- the component's cells are numbered in another order than they are made in: each one's place among them, both from 0 -/
def pm_l : List Nat := [0, 1, 2, 3, 4, 5, 6, 7, 8, 9, 10, 11, 12, 13, 14, 15, 16, 17, 18, 19, 20, 21, 23, 24, 25, 26, 27, 28, 29, 30, 31, 32, 33, 34, 35, 36, 37, 38, 39, 40, 41, 42, 43, 44, 45, 46, 47, 48, 49, 50, 51, 52, 53, 54, 55, 56, 57, 58, 22]
def pm_c (k : Nat) : Nat := if k < 59 then pm_l.getD k 0 else k
theorem pm_lt : ∀ k : Fin 59, pm_c k < 59 := by decide +kernel
theorem pm_inj : ∀ i j, pm_c i = pm_c j → i = j := by
  have h : ∀ i j : Fin 59, pm_c i = pm_c j → i = j := by decide +kernel
  have hb : ∀ k, ¬ k < 59 → pm_c k = k := fun k hk => by unfold pm_c; rw [if_neg hk]
  intro i j e
  by_cases hi : i < 59
  · by_cases hj : j < 59
    · exact congrArg Fin.val (h ⟨i, hi⟩ ⟨j, hj⟩ e)
    · have h1 : pm_c i < 59 := pm_lt ⟨i, hi⟩
      rw [hb j hj] at e
      omega
  · by_cases hj : j < 59
    · have h1 : pm_c j < 59 := pm_lt ⟨j, hj⟩
      rw [hb i hi] at e
      omega
    · rw [hb i hi, hb j hj] at e
      exact e
abbrev tv_P : Type := {f : Nat → Nat // ∀ i j, f i = f j → i = j}
def pm_s : tv_P := ⟨pm_c, pm_inj⟩
def pm_i : tv_P := ⟨fun k => k, fun _ _ h => h⟩
/-- the same of references -/
def pm_r (r : Nat) : Nat := match r with
  | 0 => 0
  | k + 1 => pm_c k + 1
/-- what the surroundings hold of the static arrays; no cell is made -/
def tv_own (j : Nat) : Int := ([1, 10, 11, 2, 20, 0, 0, 0, 0, 30, 0, 0, 0, 41, 40, 0, 0, 0, 0, 50, 0, 0, 60, 61, 70, 0, 0, 0, 81, 80, 0, 0] : List Int).getD j 0
def tv_kab (j : Nat) : Int := ([-1, 0, 0, 2, 1, 3, 0, 6] : List Int).getD j 0
def tv_hE (E : tv_E) : Prop := ¬ tv_al E ∧ tv_sa E 0 = (32, tv_own) ∧ tv_sa E 1 = (8, tv_kab)
/-- objects of which there are several: a stock, a code, a shelf -/
def tv_isStock (r : Nat) : Prop := td_at g_c r = (7, 1) ∧ g_c.2 r 0 = some (td_r g_c r 0) ∧ td_at g_c (td_r g_c r 0) = (20, 30) ∧ ∀ j, g_c.2 (td_r g_c r 0) j = none
def tv_isCode (r : Nat) : Prop := td_at g_c r = (1, 4) ∧ (g_c.2 r 0 = some (td_r g_c r 0) ∧ td_at g_c (td_r g_c r 0) = (20, 128) ∧ ∀ j, g_c.2 (td_r g_c r 0) j = none) ∧ (g_c.2 r 1 = some (td_r g_c r 1) ∧ td_at g_c (td_r g_c r 1) = (20, 128) ∧ ∀ j, g_c.2 (td_r g_c r 1) j = none) ∧ (g_c.2 r 2 = some (td_r g_c r 2) ∧ td_at g_c (td_r g_c r 2) = (20, 128) ∧ ∀ j, g_c.2 (td_r g_c r 2) j = none) ∧ g_c.2 r 3 = none
def tv_isShelf (r : Nat) : Prop := td_at g_c r = (6, 4) ∧ (g_c.2 r 3 = some (td_r g_c r 3) ∧ td_at g_c (td_r g_c r 3) = (24, 60) ∧ ∀ j, g_c.2 (td_r g_c r 3) j = none) ∧ g_c.2 r 0 = none ∧ g_c.2 r 1 = none ∧ g_c.2 r 2 = none
theorem is_stock_5 : tv_isStock 5 := ⟨rfl, rfl, rfl, fun _ => rfl⟩
theorem is_stock_21 : tv_isStock 21 := ⟨rfl, rfl, rfl, fun _ => rfl⟩
theorem is_stock_39 : tv_isStock 39 := ⟨rfl, rfl, rfl, fun _ => rfl⟩
theorem is_code_12 : tv_isCode 12 := ⟨rfl, ⟨rfl, rfl, fun _ => rfl⟩, ⟨rfl, rfl, fun _ => rfl⟩, ⟨rfl, rfl, fun _ => rfl⟩, rfl⟩
theorem is_code_16 : tv_isCode 16 := ⟨rfl, ⟨rfl, rfl, fun _ => rfl⟩, ⟨rfl, rfl, fun _ => rfl⟩, ⟨rfl, rfl, fun _ => rfl⟩, rfl⟩
theorem is_code_of {a : Int} (h : a = 12 ∨ a = 16) : tv_isCode a.toNat := by
  rcases h with rfl | rfl
  · exact is_code_12
  · exact is_code_16
theorem is_shelf_of {j : Int} (h : 0 ≤ j ∧ j < ((6 : Nat) : Int)) : tv_isShelf (td_r g_c 46 j.toNat) := by
  have h2 : j = 0 ∨ j = 1 ∨ j = 2 ∨ j = 3 ∨ j = 4 ∨ j = 5 := by omega
  rcases h2 with rfl | rfl | rfl | rfl | rfl | rfl <;> exact ⟨rfl, ⟨rfl, rfl, fun _ => rfl⟩, rfl, rfl, rfl⟩
theorem shelf_pos {r : Nat} (h : tv_isShelf r) : 0 < r := by
  cases r with
  | zero => exact absurd h.1 (by decide)
  | succ r => omega
theorem code_pos {a : Int} (h : a = 12 ∨ a = 16) : 0 < a.toNat ∧ a.toNat ≤ 1000 := by omega
section TQ
variable {l : Launch} {E : tv_E} {d : Nat} {y : tv_Y} {G : td_G} {pc : Nat} {ls st : List tv_V} {M : tv_M} {D : td_D} {x : Option (Int × td_D)}
theorem tq_istore_n {k : Fin 4} {i : Nat} {a : Int} (ls' : List tv_V) (hi : (k : Nat) = i) (hn : i < ls.length) (hk : tv_sok ls i = true) (he : ls.set i (tv_I a) = ls') (hd : decode y.2.1 pc = .ok (.istore_n k, 1)) (hs : td_sim l E d y G (pc + 1) ls' st D x) : td_sim l E d y G pc ls (tv_I a :: st) D x := ts_istore_n hi hn hk hd (by rw [he]; exact hs)
theorem tq_istore {i : Nat} {a : Int} (ls' : List tv_V) (hn : i < ls.length) (hk : tv_sok ls i = true) (he : ls.set i (tv_I a) = ls') (hd : decode y.2.1 pc = .ok (.istore i, 2)) (hs : td_sim l E d y G (pc + 2) ls' st D x) : td_sim l E d y G pc ls (tv_I a :: st) D x := ts_istore hn hk hd (by rw [he]; exact hs)
theorem tq_astore_n {k : Fin 4} {i a : Nat} (ls' : List tv_V) (hi : (k : Nat) = i) (hn : i < ls.length) (hk : tv_sok ls i = true) (ha : 0 < a) (he : ls.set i (tv_R a) = ls') (hd : decode y.2.1 pc = .ok (.astore_n k, 1)) (hs : td_sim l E d y G (pc + 1) ls' st D x) : td_sim l E d y G pc ls (tv_R a :: st) D x := by
  obtain ⟨a, rfl⟩ : ∃ p, a = p + 1 := ⟨a - 1, by omega⟩
  exact ts_astore_n hi hn hk hd (by rw [he]; exact hs)
theorem tq_astore {i a : Nat} (ls' : List tv_V) (hn : i < ls.length) (hk : tv_sok ls i = true) (ha : 0 < a) (he : ls.set i (tv_R a) = ls') (hd : decode y.2.1 pc = .ok (.astore i, 2)) (hs : td_sim l E d y G (pc + 2) ls' st D x) : td_sim l E d y G pc ls (tv_R a :: st) D x := by
  obtain ⟨a, rfl⟩ : ∃ p, a = p + 1 := ⟨a - 1, by omega⟩
  exact ts_astore hn hk hd (by rw [he]; exact hs)
theorem tq_lstore {i : Nat} {a : Int} (ls' : List tv_V) (hn : i + 1 < ls.length) (hk : tv_sok ls i = true) (he : (ls.set i (tv_J a)).set (i + 1) tv_U = ls') (hd : decode y.2.1 pc = .ok (.lstore i, 2)) (hs : td_sim l E d y G (pc + 2) ls' st D x) : td_sim l E d y G pc ls (tv_J a :: st) D x := ts_lstore hn hk hd (by rw [he]; exact hs)
theorem tq_iinc {i : Nat} {a n : Int} (ls' : List tv_V) (hg : ls[i]? = some (tv_I a)) (hk : tv_sok ls i = true) (he : ls.set i (tv_I (tv_w (a + n))) = ls') (hd : decode y.2.1 pc = .ok (.iinc i n, 3)) (hs : td_sim l E d y G (pc + 3) ls' st D x) : td_sim l E d y G pc ls st D x := ts_iinc hg hk hd (by rw [he]; exact hs)
theorem td_aaldK {r n : Nat} {j : Int} (hat : td_at G r = (25, n)) (hn : ∀ k, k < n → (G.2 r k).isSome = true) (hj : 0 ≤ j ∧ j < (n : Int)) (hd : decode y.2.1 pc = .ok (.aaload, 1)) (hs : td_sim l E d y G (pc + 1) ls (tv_R (td_r G r j.toNat) :: st) D x) : td_sim l E d y G pc ls (tv_I j :: tv_R r :: st) D x := by
  have h := td_aald hat hn hd hs
  rwa [if_pos hj] at h
def td_l (D : td_D) (K : td_D → Option (Int × td_D)) : Option (Int × td_D) := K D
theorem td_let {K : td_D → Option (Int × td_D)} (h : ∀ D2, td_sim l E d y G pc ls st D2 (K D2)) : td_sim l E d y G pc ls st D (td_l D K) := h D
/-- fewer places of the locals are known -/
def tv_lel : List tv_V → List tv_V → Prop
  | [], [] => True
  | a :: as, b :: bs => (a = tv_U ∨ a = b) ∧ tv_lel as bs
  | _, _ => False
theorem tv_lel_at {as bs : List tv_V} (h : tv_lel as bs) : as.length = bs.length ∧ ∀ (i : Nat) (v : tv_V), as[i]? = some v → v = tv_U ∨ bs[i]? = some v := by
  induction as generalizing bs with
  | nil => cases bs with
    | nil => exact ⟨rfl, fun i v hv => by simp at hv⟩
    | cons b bs => exact h.elim
  | cons a as ih => cases bs with
    | nil => exact h.elim
    | cons b bs =>
      obtain ⟨h1, h2⟩ := h
      obtain ⟨i1, i2⟩ := ih h2
      refine ⟨by simp [i1], fun i v hv => ?_⟩
      cases i with
      | zero =>
        simp at hv
        subst hv
        rcases h1 with h1 | h1
        · exact Or.inl h1
        · right; simp [h1]
      | succ i =>
        simp at hv
        simpa using i2 i v hv
theorem tv_weak {ls' : List tv_V} (h : tv_lel ls' ls) (hs : td_sim l E d y G pc ls' st D x) : td_sim l E d y G pc ls st D x := by
  obtain ⟨e1, e2⟩ := tv_lel_at h
  intro r M' hx o1 o2 o3
  have o1' : tv_oks ls' := by
    intro v hv
    obtain ⟨i, hi⟩ := List.mem_iff_getElem?.mp hv
    rcases e2 i v hi with h1 | h1
    · rw [h1]; trivial
    · exact o1 v (List.mem_of_getElem? h1)
  obtain ⟨h1, h2, h3, h4, h5⟩ := hs r M' hx o1' o2 o3
  refine ⟨h1, h2, h3, h4, ?_⟩
  intro p e R s m args below meth c Z k j C hc hj hret Ls H locs hl hw hS
  refine h5 p e R s m args below meth c Z k j C hc hj hret Ls H locs ⟨by rw [hl.1, e1], hl.2.1, fun i v hi hv => ?_⟩ hw hS
  rcases e2 i v hi with h6 | h6
  · exact absurd h6 hv
  · exact hl.2.2 i v h6 hv
theorem td_meetL {as : List tv_V} (hy : plainName y.1.cls = true) (hn : (tv_en as).length ≤ y.2.2.1) (hlo : tv_lo as y.2.2.1 = ls) (hs : td_sim l E d y G 0 ls [] D x) : td_msim l E d y G as D x := td_meet hy hn (by rw [hlo]; exact hs)
/-- the stack below a call holds few values, no long -/
def tv_noJ : List tv_V → Bool
  | [] => true
  | .inr (.inl _) :: _ => false
  | _ :: vs => tv_noJ vs
theorem tv_st8 {vs : List tv_V} (h : (tv_noJ vs && Nat.ble vs.length 8) = true) : (vs.map fun v => (tv_v E v).category).sum ≤ 8 := by
  simp only [Bool.and_eq_true, Nat.ble_eq] at h
  have h2 : (vs.map fun v => (tv_v E v).category).sum = vs.length := by
    obtain ⟨h, -⟩ := h
    induction vs with
    | nil => rfl
    | cons v vs ih =>
      rcases v with a | a | a | a | a
      · simp only [tv_noJ] at h; simp only [List.map_cons, List.sum_cons, List.length_cons, ih h]; simp [tv_v, Value.category]; omega
      · simp [tv_noJ] at h
      · simp only [tv_noJ] at h; simp only [List.map_cons, List.sum_cons, List.length_cons, ih h]; cases a <;> simp [tv_v, Value.category] <;> omega
      · simp only [tv_noJ] at h; simp only [List.map_cons, List.sum_cons, List.length_cons, ih h]; simp [tv_v, Value.category]; omega
      · simp only [tv_noJ] at h; simp only [List.map_cons, List.sum_cons, List.length_cons, ih h]; simp [tv_v, Value.category]; omega
  omega
theorem tq_callS {y2 : tv_Y} (as st : List tv_V) {st0 : List tv_V} {n idx : Nat} {F : Option (Int × td_D)} {K : Int → td_D → Option (Int × td_D)} {st' : Int → List tv_V} (hw : tv_mw y2 n) (hx : tv_msx y2) (hl : Cond.methodLink y.1.cls idx y2.1 ∈ tv_tb) (hn : as.length = n) (hls : ls.length = y.2.2.1) (hst : (tv_noJ st && Nat.ble st.length 8) = true) (h0 : st0 = as.reverse ++ st) (hpu : ∀ r', tv_pu y2 r' ++ st = st' r') (hd : decode y.2.1 pc = .ok (.invokestatic idx, 3))
    (hm : td_msim l E d y2 G (as) D F) (hk : ∀ r' D1, td_sim l E (d + 1) y G (pc + 3) ls (st' r') D1 (K r' D1)) : td_sim l E (d + 1) y G pc ls st0 D (td_b F K) := by
  subst h0
  exact td_callS hw hx hl hn hls (tv_st8 hst) hd hm (fun r' D1 => by rw [hpu]; exact hk r' D1)
theorem tq_callSN {y2 : tv_Y} (as st : List tv_V) {st0 : List tv_V} {n idx : Nat} {host : String} {F : Option (Int × td_D)} {K : Int → td_D → Option (Int × td_D)} {st' : Int → List tv_V} (hw : tv_mw y2 n) (hx : tv_msx y2) (hl : Cond.methodLinkNest y.1.cls idx y2.1 host ∈ tv_nb) (hn : as.length = n) (hls : ls.length = y.2.2.1) (hst : (tv_noJ st && Nat.ble st.length 8) = true) (h0 : st0 = as.reverse ++ st) (hpu : ∀ r', tv_pu y2 r' ++ st = st' r') (hd : decode y.2.1 pc = .ok (.invokestatic idx, 3))
    (hm : td_msim l E d y2 G (as) D F) (hk : ∀ r' D1, td_sim l E (d + 1) y G (pc + 3) ls (st' r') D1 (K r' D1)) : td_sim l E (d + 1) y G pc ls st0 D (td_b F K) := by
  subst h0
  exact td_callSN hw hx hl hn hls (tv_st8 hst) hd hm (fun r' D1 => by rw [hpu]; exact hk r' D1)
theorem tq_callV {y2 : tv_Y} (as st : List tv_V) {st0 : List tv_V} {n idx : Nat} {ci N : Nat} {T : u_T} (r : Nat) {F : Option (Int × td_D)} {K : Int → td_D → Option (Int × td_D)} {st' : Int → List tv_V} (hw : tv_mw y2 n) (hx : tv_mv y2) (hcl : tv_cls ci y2.1.cls T N) (hat : td_at G r = (ci, N)) (hl : Cond.methodLink y.1.cls idx y2.1 ∈ tv_tb) (hn : as.length = n) (hls : ls.length = y.2.2.1) (hst : (tv_noJ st && Nat.ble st.length 8) = true) (h0 : st0 = as.reverse ++ tv_R r :: st) (hpu : ∀ r', tv_pu y2 r' ++ st = st' r') (hd : decode y.2.1 pc = .ok (.invokevirtual idx, 3))
    (hm : td_msim l E d y2 G (tv_R r :: as) D F) (hk : ∀ r' D1, td_sim l E (d + 1) y G (pc + 3) ls (st' r') D1 (K r' D1)) : td_sim l E (d + 1) y G pc ls st0 D (td_b F K) := by
  subst h0
  exact td_callV hw hx hcl hat hl hn hls (tv_st8 hst) hd hm (fun r' D1 => by rw [hpu]; exact hk r' D1)
end TQ
/-- steps enough for every loop -/
def tf_N : Nat := 5000
theorem tv_own_in (j : Nat) : tv_in (tv_own j) := by
  unfold tv_own tv_in
  by_cases h : j < 32
  · have h2 : ∀ k : Fin 32, -2147483648 ≤ ([1, 10, 11, 2, 20, 0, 0, 0, 0, 30, 0, 0, 0, 41, 40, 0, 0, 0, 0, 50, 0, 0, 60, 61, 70, 0, 0, 0, 81, 80, 0, 0] : List Int).getD k 0 ∧ ([1, 10, 11, 2, 20, 0, 0, 0, 0, 30, 0, 0, 0, 41, 40, 0, 0, 0, 0, 50, 0, 0, 60, 61, 70, 0, 0, 0, 81, 80, 0, 0] : List Int).getD k 0 ≤ 2147483647 := by decide
    exact h2 ⟨j, h⟩
  · rw [List.getD_eq_getElem?_getD, List.getElem?_eq_none (by simp; omega)]; decide
theorem tv_kab_in (j : Nat) : tv_in (tv_kab j) := by
  unfold tv_kab tv_in
  by_cases h : j < 8
  · have h2 : ∀ k : Fin 8, -2147483648 ≤ ([-1, 0, 0, 2, 1, 3, 0, 6] : List Int).getD k 0 ∧ ([-1, 0, 0, 2, 1, 3, 0, 6] : List Int).getD k 0 ≤ 2147483647 := by decide
    exact h2 ⟨j, h⟩
  · rw [List.getD_eq_getElem?_getD, List.getElem?_eq_none (by simp; omega)]; decide
theorem tv_lookd {ps : List (Int × Int)} {dflt a : Int} (h : ps.all (fun q => decide (¬ a = q.1)) = true) : Op.lookupswitch.offset ps dflt a = dflt := by
  induction ps with
  | nil => rfl
  | cons q ps ih =>
    simp only [List.all_cons, Bool.and_eq_true, decide_eq_true_eq] at h
    unfold Op.lookupswitch.offset
    rw [if_neg (fun e => h.1 e.symm)]
    exact ih h.2
theorem tm_code_max : Cond.code Lib.Math.max.name Lib.Math.max.code 2 (some .int) ∈ tv_tb := tb_3 83 (by decide +kernel) rfl
theorem tm_code_min : Cond.code Lib.Math.min.name Lib.Math.min.code 2 (some .int) ∈ tv_tb := tb_3 92 (by decide +kernel) rfl
theorem tm_code_abs : Cond.code Lib.Math.abs.name Lib.Math.abs.code 1 (some .int) ∈ tv_tb := tb_3 207 (by decide +kernel) rfl
theorem tm_ini : Cond.initialized "java/lang/Math" ∈ tv_tb := tw_J9_max_7cf53.1
def tv_max (a b : Int) : Int := if a < b then b else a
def tv_min (a b : Int) : Int := if b < a then b else a
def tv_abs (a : Int) : Int := if 0 ≤ a then a else tv_w (0 - a)
section TMA
variable {l : Launch} {E : tv_E} {d : Nat} {y : tv_Y} {pc : Nat} {ls st : List tv_V} {M : tv_M} {x : Option (Int × tv_M)}
theorem tv_plainC {pc' : Nat} {st' : List tv_V} (hok : tv_oks ls → tv_oks st → tv_oks st')
    (h : ∀ (p : Program) (e : Env) (R : Room) (s : State) (m : MethodId) (args : Array Value) (below : List Frame) (meth : Method) (c : Code) (Z : State → Prop) (k j : Nat) (Ls : Array Slot) (H : Heap) (locs : List Loc), tv_oks ls → tv_oks st → tv_cx E d y p R s m args meth c → tv_lr E ls Ls → k ≤ R.cells → j ≤ R.slots →
      W p l e R s m args below meth c H locs k j Z (F0 m pc' Ls (st'.map (tv_v E))) → W p l e R s m args below meth c H locs k j Z (F0 m pc Ls (st.map (tv_v E))))
    (hs : tv_sim l E d y pc' ls st' M x) : tv_sim l E d y pc ls st M x := by
  intro r M' hx o1 o2 o3
  obtain ⟨h1, h2, h3, h4, h5⟩ := hs r M' hx o1 (hok o1 o2) o3
  refine ⟨h1, h2, h3, h4, ?_⟩
  intro p e R s m args below meth c Z k j C hc hj hret Ls H locs hl hw hS
  exact h p e R s m args below meth c Z k j Ls H locs o1 o2 C hl (by omega) (by omega) (h5 p e R s m args below meth c Z k j C hc hj hret Ls H locs hl hw hS)
theorem tv_mroom {p : Program} {R : Room} {s : State} {m : MethodId} {args : Array Value} {meth : Method} {c : Code} (C : tv_cx E (d + 1) y p R s m args meth c) (hst : (tv_noJ st && Nat.ble st.length 8) = true) : 1 ≤ R.frames ∧ ((st.map (tv_v E)).map fun v => v.category).sum + 13 ≤ R.locals := by
  have h0 := C.2.2.2.2.2.2.2.2.2.2.2.1
  have h1 := C.2.2.2.2.2.2.2.2.2.2.2.2
  have h3 : ((st.map (tv_v E)).map fun v => v.category).sum ≤ 8 := by rw [List.map_map]; exact tv_st8 hst
  omega
theorem ts_mmax {a b : Int} {idx : Nat} (hls : ls.length = y.2.2.1) (hst : (tv_noJ st && Nat.ble st.length 8) = true) (hl : Cond.methodLink y.1.cls idx Lib.Math.max.name ∈ tv_tb) (hd : decode y.2.1 pc = .ok (.invokestatic idx, 3)) (hs : tv_sim l E (d + 1) y (pc + 3) ls (tv_I (tv_max a b) :: st) M x) : tv_sim l E (d + 1) y pc ls (tv_I b :: tv_I a :: st) M x := by
  refine tv_plainC (st' := tv_I (tv_max a b) :: st) (fun o1 o2 => tv_c1 (by unfold tv_max; split; exact tv_h1 o2; exact tv_h1 (tv_t1 o2)) (tv_t2 o2)) ?_ hs
  intro p e R s m args below meth c Z k j Ls H locs o1 o2 C hlr hk hj kk
  obtain ⟨h1, h2⟩ := tv_mroom C hst
  refine va_mmax C.1 C.2.1 (by rw [C.2.2.1, hlr.1, hls]) C.2.2.2.2.1 (C.2.2.2.2.2.1 _ hl) (C.2.2.2.2.2.1 _ tx_J9_max_7cf53) (C.2.2.2.2.2.1 _ tm_ini) (C.2.2.2.2.2.1 _ tm_code_max) h1 h2 hk hj hd ?_
  have e : (if Int32.ofInt a < Int32.ofInt b then Int32.ofInt b else Int32.ofInt a) = Int32.ofInt (tv_max a b) := by
    have h := tv_lt (tv_h1 (tv_t1 o2)) (tv_h1 o2)
    unfold tv_max
    by_cases hq : a < b
    · rw [if_pos hq, if_pos (h.mpr hq)]
    · rw [if_neg hq, if_neg (fun z => hq (h.mp z))]
  rw [e]; exact kk
theorem ts_mmin {a b : Int} {idx : Nat} (hls : ls.length = y.2.2.1) (hst : (tv_noJ st && Nat.ble st.length 8) = true) (hl : Cond.methodLink y.1.cls idx Lib.Math.min.name ∈ tv_tb) (hd : decode y.2.1 pc = .ok (.invokestatic idx, 3)) (hs : tv_sim l E (d + 1) y (pc + 3) ls (tv_I (tv_min a b) :: st) M x) : tv_sim l E (d + 1) y pc ls (tv_I b :: tv_I a :: st) M x := by
  refine tv_plainC (st' := tv_I (tv_min a b) :: st) (fun o1 o2 => tv_c1 (by unfold tv_min; split; exact tv_h1 o2; exact tv_h1 (tv_t1 o2)) (tv_t2 o2)) ?_ hs
  intro p e R s m args below meth c Z k j Ls H locs o1 o2 C hlr hk hj kk
  obtain ⟨h1, h2⟩ := tv_mroom C hst
  refine va_mmin C.1 C.2.1 (by rw [C.2.2.1, hlr.1, hls]) C.2.2.2.2.1 (C.2.2.2.2.2.1 _ hl) (C.2.2.2.2.2.1 _ tx_J9_min_7cf53) (C.2.2.2.2.2.1 _ tm_ini) (C.2.2.2.2.2.1 _ tm_code_min) h1 h2 hk hj hd ?_
  have e : (if Int32.ofInt b < Int32.ofInt a then Int32.ofInt b else Int32.ofInt a) = Int32.ofInt (tv_min a b) := by
    have h := tv_lt (tv_h1 o2) (tv_h1 (tv_t1 o2))
    unfold tv_min
    by_cases hq : b < a
    · rw [if_pos hq, if_pos (h.mpr hq)]
    · rw [if_neg hq, if_neg (fun z => hq (h.mp z))]
  rw [e]; exact kk
theorem ts_mabs {a : Int} {idx : Nat} (hls : ls.length = y.2.2.1) (hst : (tv_noJ st && Nat.ble st.length 8) = true) (hl : Cond.methodLink y.1.cls idx Lib.Math.abs.name ∈ tv_tb) (hd : decode y.2.1 pc = .ok (.invokestatic idx, 3)) (hs : tv_sim l E (d + 1) y (pc + 3) ls (tv_I (tv_abs a) :: st) M x) : tv_sim l E (d + 1) y pc ls (tv_I a :: st) M x := by
  refine tv_plainC (st' := tv_I (tv_abs a) :: st) (fun o1 o2 => tv_c1 (by unfold tv_abs; split; exact tv_h1 o2; exact tv_w_in _) (tv_t1 o2)) ?_ hs
  intro p e R s m args below meth c Z k j Ls H locs o1 o2 C hlr hk hj kk
  obtain ⟨h1, h2⟩ := tv_mroom C hst
  refine va_mabs C.1 C.2.1 (by rw [C.2.2.1, hlr.1, hls]) C.2.2.2.2.1 (C.2.2.2.2.2.1 _ hl) (C.2.2.2.2.2.1 _ tx_J9_abs_0f7a4) (C.2.2.2.2.2.1 _ tm_ini) (C.2.2.2.2.2.1 _ tm_code_abs) h1 h2 hk hj hd ?_
  have e : (if 0 ≤ Int32.ofInt a then Int32.ofInt a else 0 - Int32.ofInt a) = Int32.ofInt (tv_abs a) := by
    have h : (0 : Int32) ≤ Int32.ofInt a ↔ 0 ≤ a := tv_le tv_in0 (tv_h1 o2)
    unfold tv_abs
    by_cases hq : 0 ≤ a
    · rw [if_pos hq, if_pos (h.mpr hq)]
    · rw [if_neg hq, if_neg (fun z => hq (h.mp z))]
      exact tv_sub 0 a
  rw [e]; exact kk
end TMA
theorem tm_int : plainName "java/lang/Integer" = true := by decide
