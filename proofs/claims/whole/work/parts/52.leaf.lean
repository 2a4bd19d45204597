theorem lw_rt {R : td_D → td_D → Prop} {a b : Int} {D1 D2 : td_D} (h : a = b) (hR : R D1 D2) : lw_eq R (some (a, D1)) (some (b, D2)) := ⟨b, D1, D2, by rw [h], rfl, hR⟩
def tv_tf (b : Prop) [Decidable b] : Int := if b then 1 else 0
theorem tf_t {b : Prop} [Decidable b] (h : b) : tv_tf b = 1 := if_pos h
theorem tf_f {b : Prop} [Decidable b] (h : ¬ b) : tv_tf b = 0 := if_neg h
theorem tf_0 {b : Prop} [Decidable b] : tv_tf b = 0 ↔ ¬ b := by unfold tv_tf; split <;> simp_all
theorem tf_01 {b : Prop} [Decidable b] : tv_tf b = 0 ∨ tv_tf b = 1 := by unfold tv_tf; split <;> simp
theorem fe_isTemper (a : Int) (D : td_D) : F_X11_isTemper a D = some (tv_tf (0 ≤ a ∧ a ≤ 99), D) := by
  unfold F_X11_isTemper tv_tf
  (repeat' split) <;> first | rfl | omega
theorem fe_isCell (a : Int) (D : td_D) : F_X11_isCell a D = some (tv_tf (0 ≤ a ∧ a ≤ 99), D) := by
  unfold F_X11_isCell tv_tf
  (repeat' split) <;> first | rfl | omega
theorem fe_isShelf (a : Int) (D : td_D) : F_X11_isShelf a D = some (tv_tf (0 ≤ a ∧ a ≤ 5), D) := by
  unfold F_X11_isShelf tv_tf
  (repeat' split) <;> first | rfl | omega
theorem fe_isKind (a : Int) (D : td_D) : F_X11_isKind a D = some (tv_tf (0 ≤ a ∧ a ≤ 7), D) := by
  unfold F_X11_isKind tv_tf
  (repeat' split) <;> first | rfl | omega
theorem fe_isDeedAs (a b c : Int) (D : td_D) : F_X11_isDeedAsItMayBe a b c D = some (tv_tf ((0 ≤ a ∧ a ≤ 99) ∧ (0 ≤ b ∧ b ≤ 99) ∧ a ≤ b ∧ (0 ≤ c ∧ c ≤ 99)), D) := by
  unfold F_X11_isDeedAsItMayBe
  simp only [fe_isTemper, td_bs, tf_0]
  unfold tv_tf
  (repeat' split) <;> first | rfl | omega
theorem fm_in (a lo hi : Int) (D : td_D) : F_X12_in a lo hi D = some (tv_tf (lo ≤ a ∧ a ≤ hi), D) := by
  unfold F_X12_in tv_tf
  (repeat' split) <;> first | rfl | omega
theorem fm_isMuch (a : Int) (D : td_D) : F_X12_isMuch a D = some (tv_tf (0 ≤ a ∧ a ≤ 99), D) := by
  unfold F_X12_isMuch
  rw [fm_in, td_bs, if_pos tf_01]
theorem fm_isCell (a : Int) (D : td_D) : F_X12_isCell a D = some (tv_tf (0 ≤ a ∧ a ≤ 99), D) := by
  unfold F_X12_isCell
  rw [fm_in, td_bs, if_pos tf_01]
theorem fm_isShelf (a : Int) (D : td_D) : F_X12_isShelf a D = some (tv_tf (0 ≤ a ∧ a ≤ 5), D) := by
  unfold F_X12_isShelf
  rw [fm_in, td_bs, if_pos tf_01]
theorem fm_areDeed (a b : Int) (D : td_D) : F_X12_areDeed a b D = some (tv_tf ((0 ≤ a ∧ a ≤ 99) ∧ (0 ≤ b ∧ b ≤ 99) ∧ a ≤ b), D) := by
  unfold F_X12_areDeed
  simp only [fm_isMuch, td_bs, tf_0]
  unfold tv_tf
  (repeat' split) <;> first | rfl | omega
theorem fm_isPerson (a : Int) {D : td_D} (h : 0 ≤ D 1 1 ∧ D 1 1 ≤ 6) : F_X12_isPerson a D = some (tv_tf (0 ≤ a ∧ a < D 1 1), D) := by
  unfold F_X12_isPerson
  rw [fm_in, td_bs, if_pos tf_01, tw_s (by omega) (by omega)]
  unfold tv_tf
  (repeat' split) <;> first | rfl | omega
theorem fm_isHive (a : Int) {D : td_D} (h : 0 ≤ D 1 3 ∧ D 1 3 ≤ 5) : F_X12_isHive a D = some (tv_tf (0 ≤ a ∧ a < D 1 3), D) := by
  unfold F_X12_isHive
  rw [fm_in, td_bs, if_pos tf_01, tw_s (by omega) (by omega)]
  unfold tv_tf
  (repeat' split) <;> first | rfl | omega
theorem fm_isDeed (a : Int) {D : td_D} (h : 0 ≤ D 1 6 ∧ D 1 6 ≤ 10) : F_X12_isDeed a D = some (tv_tf (0 ≤ a ∧ a < D 1 6), D) := by
  unfold F_X12_isDeed
  rw [fm_in, td_bs, if_pos tf_01, tw_s (by omega) (by omega)]
  unfold tv_tf
  (repeat' split) <;> first | rfl | omega
theorem fm_isBody (a : Int) {D : td_D} (h : 0 ≤ D 1 50 ∧ D 1 50 ≤ 50) : F_X12_isBody a D = some (tv_tf (0 ≤ a ∧ a < D 1 50), D) := by
  unfold F_X12_isBody
  rw [fm_in, td_bs, if_pos tf_01, tw_s (by omega) (by omega)]
  unfold tv_tf
  (repeat' split) <;> first | rfl | omega
theorem fe_isPerson (a : Int) (D : td_D) : F_X3_isPerson a D = some (tv_tf (0 ≤ a ∧ a < D 2 0), D) := by
  unfold F_X3_isPerson tv_tf
  (repeat' split) <;> first | rfl | omega
theorem fe_isHive (a : Int) (D : td_D) : F_X3_isHive a D = some (tv_tf (0 ≤ a ∧ a < D 2 1), D) := by
  unfold F_X3_isHive tv_tf
  (repeat' split) <;> first | rfl | omega
theorem fe_isDeed (a : Int) (D : td_D) : F_X3_isDeed a D = some (tv_tf (0 ≤ a ∧ a < D 2 2), D) := by
  unfold F_X3_isDeed tv_tf
  (repeat' split) <;> first | rfl | omega
theorem fe_isBody (a : Int) (D : td_D) : F_X8_isBody a D = some (tv_tf (0 ≤ a ∧ a < D 43 1), D) := by
  unfold F_X8_isBody tv_tf
  (repeat' split) <;> first | rfl | omega
/-- count -/
theorem st_44 : ls_44 lw_R := by
  intro a1 Dc Dm _ _ hR
  have hR' := hR
  obtain ⟨⟨⟨l1, -⟩, ⟨l2, -⟩, ⟨l3, -⟩, -⟩, -, ⟨⟨l4, -⟩, -⟩, -, ⟨⟨l5, -⟩, -⟩, -, -, ⟨⟨l6, -⟩, -, ⟨l7, -⟩, -⟩, -⟩ := hR'
  unfold F_X11_count F_X12_count
  (repeat' split) <;> first | (exfalso; omega) | exact lw_rt (by omega) hR
/-- led -/
theorem st_30 : ls_30 lw_R := by
  intro a1 Dc Dm _ _ hR
  obtain ⟨-, -, -, -, -, hg, -⟩ := id hR
  unfold F_X11_led F_X12_led
  simp only [fm_in, td_bs, tf_0]
  (repeat' split) <;> first | (exfalso; omega) | exact lw_rt rfl hR | exact lw_rt (hg _ (by omega)).symm hR
/-- trace -/
theorem st_37 : ls_37 lw_R := by
  intro a1 Dc Dm _ _ hR
  obtain ⟨-, -, -, -, -, -, -, ⟨-, -, ⟨e, -, -⟩, ht⟩, -⟩ := id hR
  unfold F_X11_trace F_X12_trace
  rw [e]
  (repeat' split) <;> first | (exfalso; omega) | exact lw_rt rfl hR | exact lw_rt (ht _ (by omega) (by omega)).symm hR
