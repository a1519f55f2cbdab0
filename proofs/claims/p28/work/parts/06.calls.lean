/-! BRANCHES, ENDS, CALLS of the abstract machine -/
def gEx (j : Nat) : String × Nat × Nat := match j with
  | 0 => ("java/lang/IndexOutOfBoundsException", 308, 312)
  | 1 => ("java/lang/IllegalArgumentException", 73, 77)
  | _ => ("java/lang/IllegalStateException", 52, 56)
abbrev gXn : List String := ["java/lang/RuntimeException", "java/lang/Exception"]
theorem gEx_0 : ∀ w ∈ vx_atS "GoldSheets" 312 "java/lang/IndexOutOfBoundsException" gXn, w ∈ gTs ∨ w ∈ gNs := by decide +kernel
theorem gEx_1 : ∀ w ∈ vx_atS "GoldSheets" 77 "java/lang/IllegalArgumentException" gXn, w ∈ gTs ∨ w ∈ gNs := by decide +kernel
theorem gEx_2 : ∀ w ∈ vx_atS "GoldSheets" 56 "java/lang/IllegalStateException" gXn, w ∈ gTs ∨ w ∈ gNs := by decide +kernel
theorem gEx_g0 : ∀ w ∈ Cond.classLink "GoldSheets" 308 "java/lang/IndexOutOfBoundsException" :: Cond.initialized "java/lang/IndexOutOfBoundsException" :: vx_atS "GoldSheets" 312 "java/lang/IndexOutOfBoundsException" gXn, vx_ot w = true := by decide +kernel
theorem gEx_g1 : ∀ w ∈ Cond.classLink "GoldSheets" 73 "java/lang/IllegalArgumentException" :: Cond.initialized "java/lang/IllegalArgumentException" :: vx_atS "GoldSheets" 77 "java/lang/IllegalArgumentException" gXn, vx_ot w = true := by decide +kernel
theorem gEx_g2 : ∀ w ∈ Cond.classLink "GoldSheets" 52 "java/lang/IllegalStateException" :: Cond.initialized "java/lang/IllegalStateException" :: vx_atS "GoldSheets" 56 "java/lang/IllegalStateException" gXn, vx_ot w = true := by decide +kernel
theorem gEx_ws : ∀ w ∈ [Cond.classLink "GoldSheets" 308 "java/lang/IndexOutOfBoundsException", .initialized "java/lang/IndexOutOfBoundsException", .classLink "GoldSheets" 73 "java/lang/IllegalArgumentException", .initialized "java/lang/IllegalArgumentException", .classLink "GoldSheets" 52 "java/lang/IllegalStateException", .initialized "java/lang/IllegalStateException"], w ∈ gTs := by decide +kernel
/-- the three exceptions: what vx_throwS wants of the words -/
def gExP (ik ic : Nat) (cls : String) : Prop := Bundle.fit cls = true ∧ Cond.classLink "GoldSheets" ik cls ∈ gTs ∧ Cond.initialized cls ∈ gTs ∧ (∀ w ∈ vx_atS "GoldSheets" ic cls gXn, w ∈ gTs ∨ w ∈ gNs) ∧ (∀ w ∈ Cond.classLink "GoldSheets" ik cls :: Cond.initialized cls :: vx_atS "GoldSheets" ic cls gXn, vx_ot w = true)
theorem gExP_0 : gExP 308 312 "java/lang/IndexOutOfBoundsException" := ⟨by decide +kernel, gEx_ws _ (by simp), gEx_ws _ (by simp), gEx_0, gEx_g0⟩
theorem gExP_1 : gExP 73 77 "java/lang/IllegalArgumentException" := ⟨by decide +kernel, gEx_ws _ (by simp), gEx_ws _ (by simp), gEx_1, gEx_g1⟩
theorem gExP_2 : gExP 52 56 "java/lang/IllegalStateException" := ⟨by decide +kernel, gEx_ws _ (by simp), gEx_ws _ (by simp), gEx_2, gEx_g2⟩
theorem gXn_fit : ∀ n ∈ gXn, Bundle.fit n = true := by decide +kernel
