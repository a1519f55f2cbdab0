/-! GoldSheets: the share's bits, the digest. Printed by wip/whole/meths11.py -/
/-- the loop: scaled and exponent, from exponent n + 1 -/
def boL : Nat → UInt64 → UInt64 × Nat
  | 0, x => (x, 1)
  | n + 1, x => if Op.cmpValue (FP.dcmp x FP.dconst1) .g < 0 then boL n (FP.dmul x 4611686018427387904) else (x, n + 2)
def boK : Nat → UInt64 → Prop
  | 0, _ => True
  | n + 1, x => Op.cmpValue (FP.dcmp x FP.dconst1) .g < 0 → vf_n64 (FP.dmul x 4611686018427387904) ∧ boK n (FP.dmul x 4611686018427387904)
def bitV (x : UInt64) : Int64 := if 0 < Op.cmpValue (FP.dcmp x FP.dconst0) .g then (Int64.ofNat (boL 1022 x).2 <<< ((52 : Int32).toInt64 &&& 63)) + FP.d2l (FP.dmul (FP.dsub (boL 1022 x).1 FP.dconst1) 4841369599423283200) else 0
def bitK (x : UInt64) : Prop := boK 1022 x ∧ vf_n64 (FP.dsub (boL 1022 x).1 FP.dconst1) ∧ vf_n64 (FP.dmul (FP.dsub (boL 1022 x).1 FP.dconst1) 4841369599423283200)
theorem nL_sub : ∀ n, n < 1024 → Int64.ofNat (n + 1 + 1) - 1 = Int64.ofNat (n + 1) := by decide +kernel
theorem nL_cmp : ∀ n, n < 1024 → ¬ lg_cmp (Int64.ofNat (n + 1 + 1)) 1 ≤ 0 := by decide +kernel
set_option maxRecDepth 20000 in
theorem l_bitsOf (x : UInt64) {sc : Nat × (Nat → Int32)} {n0 : Nat} {E : gO → gH → Prop} : ∀ (n : Nat) (y : UInt64), n < 1023 → boK n y → (gW K_Gs_bitsOf sc { frames := 0, locals := 0, cells := 0, slots := 0 } n0 E 0 0 43 [(0, .double x), (2, .double ((boL n y).1)), (4, .long (Int64.ofNat (boL n y).2))] [] []) → gW K_Gs_bitsOf sc { frames := 0, locals := 0, cells := 0, slots := 0 } n0 E 0 0 15 [(0, .double x), (2, .double y), (4, .long (Int64.ofNat (n + 1)))] [] [] := by
  intro n
  induction n with
  | zero =>
    intro y hn hb kk
    refine gW_b D_Gs_bitsOf 10 3 (pc' := 18) (l' := [(0, .double x), (2, .double y), (4, .long (Int64.ofNat (0 + 1)))]) (st' := [.int (Op.cmpValue (FP.dcmp y FP.dconst1) .g)]) (h' := []) (P := True) rfl trivial ?_
    refine gW_if_ge (gdec_at D_Gs_bitsOf 13 rfl) (tgt := 43) rfl (fun c => ?_) (fun c => ?_)
    · skip
      exact kk
    · skip
      refine gW_b D_Gs_bitsOf 14 3 (pc' := 25) (l' := [(0, .double x), (2, .double y), (4, .long (Int64.ofNat (0 + 1)))]) (st' := [.int (lg_cmp (Int64.ofNat (0 + 1)) 1)]) (h' := []) (P := True) rfl trivial ?_
      refine gW_if_le (gdec_at D_Gs_bitsOf 17 rfl) (tgt := 43) rfl (fun _ => ?_) (fun cq => absurd (by decide) cq)
      exact kk
  | succ n ih =>
    intro y hn hb kk
    refine gW_b D_Gs_bitsOf 10 3 (pc' := 18) (l' := [(0, .double x), (2, .double y), (4, .long (Int64.ofNat (n + 1 + 1)))]) (st' := [.int (Op.cmpValue (FP.dcmp y FP.dconst1) .g)]) (h' := []) (P := True) rfl trivial ?_
    refine gW_if_ge (gdec_at D_Gs_bitsOf 13 rfl) (tgt := 43) rfl (fun c => ?_) (fun c => ?_)
    · skip
      rw [show boL (n + 1) y = (y, n + 2) from if_neg (Int32.not_lt.mpr c)] at kk
      exact kk
    · skip
      have c2 := Int32.not_le.mp c
      obtain ⟨q1, q2⟩ := hb c2
      rw [show boL (n + 1) y = boL n (FP.dmul y 4611686018427387904) from if_pos c2] at kk
      refine gW_b D_Gs_bitsOf 14 3 (pc' := 25) (l' := [(0, .double x), (2, .double y), (4, .long (Int64.ofNat (n + 1 + 1)))]) (st' := [.int (lg_cmp (Int64.ofNat (n + 1 + 1)) 1)]) (h' := []) (P := True) rfl trivial ?_
      refine gW_if_le (gdec_at D_Gs_bitsOf 17 rfl) (tgt := 43) rfl (fun cq => absurd cq (nL_cmp n (by omega))) (fun _ => ?_)
      refine gW_b D_Gs_bitsOf 18 9 (pc' := 15) (l' := [(0, .double x), (2, .double (FP.dmul y 4611686018427387904)), (4, .long ((Int64.ofNat (n + 1 + 1)) - 1))]) (st' := []) (h' := []) (P := vf_n64 (FP.dmul y 4611686018427387904) ∧ True) rfl ⟨(by assumption), trivial⟩ ?_
      rw [nL_sub n (by omega)]
      exact ih _ (by omega) q2 kk
set_option maxRecDepth 20000 in
theorem m_bitsOf (x : UInt64) (hk : bitK x) : gM K_Gs_bitsOf { frames := 0, locals := 0, cells := 0, slots := 0 } [.double x] ([]) (gD (.inl (some (.long (bitV x)))) ([])) := by
  refine gM_of rfl rfl (Nat.le_of_ble_eq_true rfl) (fun sc => ?_)
  obtain ⟨k1, k2, k3⟩ := hk
  refine gW_b D_Gs_bitsOf 0 3 (pc' := 3) (l' := [(0, .double x)]) (st' := [.int (Op.cmpValue (FP.dcmp x FP.dconst0) .g)]) (h' := []) (P := True) rfl trivial ?_
  refine gW_if_gt (gdec_at D_Gs_bitsOf 3 rfl) (tgt := 8) rfl (fun c => ?_) (fun c => ?_)
  · skip
    refine gW_b D_Gs_bitsOf 6 4 (pc' := 15) (l' := [(0, .double x), (2, .double x), (4, .long 1023)]) (st' := []) (h' := []) (P := True) rfl trivial ?_
    refine l_bitsOf x 1022 x (by decide) k1 ?_
    refine gW_b D_Gs_bitsOf 27 10 (pc' := 57) (l' := [(0, .double x), (2, .double ((boL 1022 x).1)), (4, .long (Int64.ofNat (boL 1022 x).2))]) (st' := [.long (((Int64.ofNat (boL 1022 x).2) <<< ((52 : Int32).toInt64 &&& 63)) + (FP.d2l (FP.dmul (FP.dsub ((boL 1022 x).1) FP.dconst1) 4841369599423283200)))]) (h' := []) (P := vf_n64 (FP.dsub ((boL 1022 x).1) FP.dconst1) ∧ vf_n64 (FP.dmul (FP.dsub ((boL 1022 x).1) FP.dconst1) 4841369599423283200) ∧ True) rfl ⟨(by assumption), (by assumption), trivial⟩ ?_
    rw [show bitV x = _ from if_pos c]
    exact gW_lret (gdec_at D_Gs_bitsOf 37 rfl) rfl (Nat.le_of_ble_eq_true rfl) ⟨rfl, rfl⟩ (Nat.le_of_ble_eq_true rfl) (Nat.le_of_ble_eq_true rfl)
  · skip
    refine gW_b D_Gs_bitsOf 4 1 (pc' := 7) (l' := [(0, .double x)]) (st' := [.long 0]) (h' := []) (P := True) rfl trivial ?_
    rw [show bitV x = 0 from if_neg c]
    exact gW_lret (gdec_at D_Gs_bitsOf 5 rfl) rfl (Nat.le_of_ble_eq_true rfl) ⟨rfl, rfl⟩ (Nat.le_of_ble_eq_true rfl) (Nat.le_of_ble_eq_true rfl)
