/-- a step of the component's code beside one of the model's -/
def p_step (c v c' v' : Int) : Prop :=
  (c = 1 ∧ c' = 1 ∧ v' = v) ∨ (c = 2 ∧ c' = 2 ∧ v' = v ∧ 0 ≤ v ∧ v ≤ 5) ∨ (c = 3 ∧ c' = 4) ∨ (c = 4 ∧ c' = 3) ∨
  (c' = c ∧ (c = 124 ∨ c = 38 ∨ c = 60 ∨ c = 61 ∨ c = 62 ∨ c = 43 ∨ c = 45 ∨ c = 42 ∨ c = 47 ∨ c = 37))
/-- a stretch of steps that leaves one value more -/
def p_seg (st vl : Nat → Int) (a : Nat) (ac wi : Nat → Int) (b len : Nat) : Prop :=
  (∀ k : Nat, k < len → p_step (st (a + k)) (vl (a + k)) (ac (b + k)) (wi (b + k))) ∧
  ∃ h : Nat → Nat, h 0 = 0 ∧ h len = 1 ∧ ∀ k : Nat, k < len → ((ac (b + k) = 1 ∨ ac (b + k) = 2) ∧ h (k + 1) = h k + 1) ∨ ((ac (b + k) = 3 ∨ ac (b + k) = 4) ∧ 1 ≤ h k ∧ h (k + 1) = h k) ∨ (5 ≤ ac (b + k) ∧ 2 ≤ h k ∧ h (k + 1) + 1 = h k)
/-- the law's lines: po: where each begins in the component's code; fi: where it begins in the model's -/
def p_code (n : Int) (st vl : Nat → Int) (ac wi lm te le : Nat → Int) : Prop :=
  0 < n ∧ n ≤ 128 ∧ 0 < lm 0 ∧ lm 0 ≤ 61 ∧ ∃ po fi ti : Nat → Nat, po 0 = 0 ∧ fi 0 = 0 ∧ po (lm 0).toNat = n.toNat ∧ (∀ l : Nat, (l : Int) < lm 0 → fi l ≤ ti l ∧ ti l < fi (l + 1) ∧ fi (l + 1) ≤ 128 ∧ te l = (ti l : Int) ∧ le l = (fi (l + 1) : Int)) ∧
  ∀ l : Nat, (l : Int) < lm 0 → (fi l = ti l ∧ p_seg st vl (po l) ac wi (fi l) (fi (l + 1) - fi l) ∧ st (po l + (fi (l + 1) - fi l)) = 5 ∧ po (l + 1) = po l + (fi (l + 1) - fi l) + 1) ∨
    (fi l < ti l ∧ p_seg st vl (po l) ac wi (fi l) (ti l - fi l) ∧ st (po l + (ti l - fi l)) = 6 ∧ vl (po l + (ti l - fi l)) = (po (l + 1) : Int) ∧ p_seg st vl (po l + (ti l - fi l) + 1) ac wi (ti l) (fi (l + 1) - ti l) ∧ st (po l + (fi (l + 1) - fi l) + 1) = 5 ∧ po (l + 1) = po l + (fi (l + 1) - fi l) + 2)
def p_law (la dr n12 n16 : Int) (s12 v12 s16 v16 : Nat → Int) (has : Int) (ac wi lm te le : Nat → Int) : Prop :=
  (la = 12 ∧ dr = 16 ∧ ((has = 0 ∧ n12 = 0) ∨ (has = 1 ∧ p_code n12 s12 v12 ac wi lm te le))) ∨ (la = 16 ∧ dr = 12 ∧ ((has = 0 ∧ n16 = 0) ∨ (has = 1 ∧ p_code n16 s16 v16 ac wi lm te le)))
/-- both memories tell the same -/
def lw_R (Dc Dm : td_D) : Prop :=
  p_land (Dc 2 0) (Dc 2 1) (Dc 2 2) (Dc 3) (Dc 4) (Dc 6) (Dc 7) (Dc 8) (Dc 9) (Dm 1 1) (Dm 1 3) (Dm 1 6) (Dm 2) (Dm 3) (Dm 4) (Dm 5) (Dm 6) (Dm 7) ∧
  p_set (Dc 2 9) (Dc 2 10) (Dc 2 11) (Dc 2 12) (Dm 8) ∧ p_tape (Dc 10 1) (Dc 11) (Dm 1 18) (Dm 13) ∧
  p_law (Dc 1 2) (Dc 1 3) (Dc 12 3) (Dc 16 3) (Dc 13) (Dc 14) (Dc 17) (Dc 18) (Dm 1 30) (Dm 14) (Dm 15) (Dm 16) (Dm 17) (Dm 18) ∧
  p_chg (Dc 2 0) (Dc 2 1) (Dc 2 2) (Dc 7) (Dc 8) (Dc 32 4) (Dc 32 5) (Dc 33) (Dc 34) (Dc 35) (Dc 36) (Dm 1 11) (Dm 1 12) (Dm 9) (Dm 10) (Dm 11) (Dm 12) ∧
  p_led (Dc 42) (Dm 31) ∧ p_img (Dc 2 0) (Dc 2 1) (Dc 37 0) (Dc 37 1) (Dc 38) (Dc 40) (Dc 41) (Dm 1 44) (Dm 1 45) (Dm 1 46) (Dm 32) (Dm 33) (Dm 34) ∧
  p_bod (Dc 43 1) (Dc 44) (Dc 43 3) (Dc 45) (Dm 1 50) (Dm 35) (Dm 1 52) (Dm 36) ∧
  (p_shelf (Dc 43 1) 0 (Dc 47) (Dc 48) (Dm 37) (Dm 38) (Dm 39) ∧ p_shelf (Dc 43 1) 1 (Dc 49) (Dc 50) (Dm 37) (Dm 38) (Dm 39) ∧ p_shelf (Dc 43 1) 2 (Dc 51) (Dc 52) (Dm 37) (Dm 38) (Dm 39) ∧ p_shelf (Dc 43 1) 3 (Dc 53) (Dc 54) (Dm 37) (Dm 38) (Dm 39) ∧ p_shelf (Dc 43 1) 4 (Dc 55) (Dc 56) (Dm 37) (Dm 38) (Dm 39) ∧ p_shelf (Dc 43 1) 5 (Dc 57) (Dc 58) (Dm 37) (Dm 38) (Dm 39))
/-- a row that holds 0 at first -/
theorem p_r0 : ∀ i : Fin 6, dm_0 2 i = dc_0 3 i ∧ 0 ≤ dc_0 3 i ∧ dc_0 3 i ≤ 99 := by decide +kernel
theorem lw_R0 : lw_R dc_0 dm_0 := by
  have z30 : ∀ i : Fin 30, (dm_0 4 i = dc_0 6 i ∧ 0 ≤ dc_0 6 i ∧ dc_0 6 i ≤ 99) ∧ dc_0 6 i = 0 := by decide +kernel
  have z6 : ∀ i : Fin 6, (dm_0 2 i = dc_0 3 i ∧ 0 ≤ dc_0 3 i ∧ dc_0 3 i ≤ 99) ∧ dm_0 31 i = dc_0 42 i := by decide +kernel
  have z5 : ∀ i : Fin 5, dm_0 3 i = dc_0 4 i ∧ 0 ≤ dc_0 4 i ∧ dc_0 4 i ≤ 99 := by decide +kernel
  have z10 : ∀ i : Fin 10, (dm_0 5 i = dc_0 7 i ∧ 0 ≤ dc_0 7 i ∧ dc_0 7 i ≤ 99) ∧ (dm_0 6 i = dc_0 8 i ∧ 0 ≤ dc_0 8 i ∧ dc_0 8 i ≤ 99) ∧ (dm_0 7 i = dc_0 9 i ∧ 0 ≤ dc_0 9 i ∧ dc_0 9 i ≤ 99) ∧ dc_0 7 i ≤ dc_0 8 i := by decide +kernel
  have e1 : dc_0 2 0 = 0 ∧ dm_0 1 1 = 0 ∧ dc_0 2 1 = 0 ∧ dm_0 1 3 = 0 ∧ dc_0 2 2 = 0 ∧ dm_0 1 6 = 0 := by decide +kernel
  have e2 : dc_0 32 4 = 0 ∧ dc_0 32 5 = 0 ∧ dm_0 1 11 = 0 ∧ dm_0 1 12 = 0 ∧ dc_0 10 1 = 0 ∧ dm_0 1 18 = 0 := by decide +kernel
  have e3 : dc_0 43 1 = 0 ∧ dc_0 43 3 = 0 ∧ dm_0 1 50 = 0 ∧ dm_0 1 52 = 0 ∧ dc_0 37 0 = 0 ∧ dm_0 1 44 = 0 := by decide +kernel
  obtain ⟨a1, a2, a3, a4, a5, a6⟩ := e1
  obtain ⟨b1, b2, b3, b4, b5, b6⟩ := e2
  obtain ⟨c1, c2, c3, c4, c5, c6⟩ := e3
  refine ⟨⟨?_, ?_, ?_, fun i hi => (z6 ⟨i, hi⟩).1, fun i hi => z5 ⟨i, hi⟩, fun i hi => (z30 ⟨i, hi⟩).1, fun h p hh hp _ => (z30 ⟨6 * h + p, by omega⟩).2, fun i hi => (z10 ⟨i, hi⟩).1, fun i hi => (z10 ⟨i, hi⟩).2.1, fun i hi => (z10 ⟨i, hi⟩).2.2.1, fun i hi => (z10 ⟨i, hi⟩).2.2.2⟩, ?_, ?_, ?_, ?_, fun i hi => (z6 ⟨i, hi⟩).2, ?_, ?_, ?_⟩
  · omega
  · omega
  · omega
  · unfold p_set; decide +kernel
  · refine ⟨by omega, fun i hi => ?_⟩
    rw [b5] at hi; omega
  · left; exact ⟨by decide +kernel, by decide +kernel, Or.inl ⟨by decide +kernel, by decide +kernel⟩⟩
  · refine ⟨by omega, fun k hk => by rw [b1] at hk; omega, fun _ t i => if t = 0 then dc_0 7 i else dc_0 8 i, fun i hi => ⟨rfl, rfl⟩, fun k i _ hi => (z10 ⟨i, hi⟩).2.2.2, fun k hk => by rw [b1] at hk; omega⟩
  · refine ⟨by omega, by omega, fun h => by omega⟩
  · refine ⟨by omega, fun i hi => by rw [c1] at hi; omega, by omega, fun i _ hi => by rw [c2] at hi; omega⟩
  · refine ⟨?_, ?_, ?_, ?_, ?_, ?_⟩ <;> (left; decide +kernel)
