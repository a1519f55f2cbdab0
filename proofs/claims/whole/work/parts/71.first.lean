/-! AT THE BEGINNING both stand alike -/
theorem gFi_e : gFi = upd (upd (upd (upd (upd z0 0 50) 1 120) 3 2) 4 30) 5 10 := by
  funext i
  by_cases h : i < 6
  · obtain rfl | rfl | rfl | rfl | rfl | rfl : i = 0 ∨ i = 1 ∨ i = 2 ∨ i = 3 ∨ i = 4 ∨ i = 5 := by omega
    all_goals rfl
  · rw [upd_ne _ _ (by omega), upd_ne _ _ (by omega), upd_ne _ _ (by omega), upd_ne _ _ (by omega), upd_ne _ _ (by omega)]
    unfold gFi
    rw [List.getD_eq_getElem?_getD, List.getElem?_eq_none (by simp; omega)]
    rfl
theorem trI_0 : trI z0 := ⟨fun _ _ => Int.le_refl 0, fun a _ => by
  show (0 : Int32).toInt + (0 : Int32).toInt + (0 : Int32).toInt + (0 : Int32).toInt ≤ 500
  decide⟩
theorem sh0_b (t : Nat) (ht : t < 4) : 0 ≤ (sh0 t).toInt ∧ (sh0 t).toInt ≤ 999 := by
  obtain rfl | rfl | rfl | rfl : t = 0 ∨ t = 1 ∨ t = 2 ∨ t = 3 := by omega
  all_goals decide
theorem DI_0 : DI 0 domM := by
  refine ⟨⟨by decide, fun p hp => absurd hp (Nat.not_lt_zero _), ?_⟩, ?_, trI_0, fun p hp => absurd hp (Nat.not_lt_zero _), fun p q _ hq => absurd hq (Nat.not_lt_zero _), fun p hp => absurd hp (Nat.not_lt_zero _), sh0_b, fun t _ => ⟨Int.le_refl 0, Int.le_refl 0⟩, fun t _ => Int.le_refl 0, fun t _ => Int.le_refl 0, rfl, fun t _ => Int.le_refl 0, ⟨Int.le_refl 0, Int.le_refl 0⟩, ⟨Int.le_refl 0, Int.le_refl 0⟩, ⟨Int.le_refl 0, Int.le_refl 0⟩, Int.le_refl 0⟩
  · show stOK (upd (upd (upd (upd (upd z0 0 50) 1 120) 3 2) 4 30) 5 10)
    rw [← gFi_e]
    unfold stOK
    decide
  · show stE (upd (upd (upd (upd (upd z0 0 50) 1 120) 3 2) 4 30) 5 10)
    rw [← gFi_e]
    unfold stE
    decide
theorem RelD_0 : RelD 0 dom0 domM := by
  refine ⟨⟨z0, ?_, List.Perm.refl _, List.Pairwise.nil⟩, DI_0, fun p hp => absurd hp (Nat.not_lt_zero _), by decide⟩
  show (z0, z0, 0, 0, gFi, sh0, z0, z0, z0, 0, 0, 0, 0, 0) = _
  rw [gFi_e]
  rfl
theorem rel_0 : Rel 0 gs0 mo0 := ⟨RelD_0, by decide, rfl, by decide, odOK_0, fun k hk => absurd hk (Nat.not_lt_zero _), ⟨by decide, by decide, by decide⟩, rfl, fun i hi => absurd hi (Nat.not_lt_zero _)⟩
