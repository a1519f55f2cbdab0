/-! THE SHARE and its bits, on both sides: a number from 2^-31 to below 2, or 0, or 1 -/
theorem n64_of {a : UInt64} (h : FP.Core.val64 a ≠ .nan) : vf_n64 a := by
  have h1 := (FP.Core.ne_nan a).mp h
  unfold vf_n64
  rw [UInt64.le_iff_toNat_le, FP.Core.mask_toNat]
  exact h1
theorem val_two : FP.Core.val64 4611686018427387904 = .fin false (2 ^ 52) (-51) := by decide +kernel
theorem val_p52 : FP.Core.val64 4841369599423283200 = .fin false (2 ^ 52) 0 := by decide +kernel
theorem val_one : FP.Core.val64 FP.dconst1 = .fin false (2 ^ 52) (-52) := by decide +kernel
theorem val_zero : FP.Core.val64 FP.dconst0 = .fin false 0 (-1074) := by decide +kernel
theorem qmax_64 : FP.Core.b64.qmax = 971 := by decide
theorem fit64 {s : Bool} {c : Nat} {q : Int} (h1 : 2 ^ 52 ≤ c) (h2 : c < 2 ^ 53) (h3 : -1074 ≤ q) (h4 : q ≤ 971) : FP.Core.fits FP.Core.b64 (.fin s c q) := by
  refine ⟨h2, ?_, ?_, Or.inr ?_⟩
  · rw [FP.Core.qmin_b64]
    exact h3
  · rw [qmax_64]
    exact h4
  · rw [FP.Core.tails_b64]
    exact h1
/-- a normal number from 2^-k to below 2^(1-k) -/
def nrm (k c : Nat) (v : UInt64) : Prop := FP.Core.val64 v = .fin false c (-52 - (k : Int)) ∧ 2 ^ 52 ≤ c ∧ c < 2 ^ 53
theorem nrm.n64 {k c : Nat} {v : UInt64} (h : nrm k c v) : vf_n64 v := n64_of (by rw [h.1]; exact FP.Core.Datum.noConfusion)
theorem nrm_dbl {k c : Nat} {v : UInt64} (hk : k ≤ 60) (h : nrm (k + 1) c v) : nrm k c (FP.dmul v 4611686018427387904) := by
  obtain ⟨hv, h1, h2⟩ := h
  refine ⟨?_, h1, h2⟩
  show FP.Core.val64 (FP.Core.dmul v 4611686018427387904) = _
  rw [FP.Core.val64_dmul, hv, val_two]
  show FP.Core.roundRatio FP.Core.b64 false (c * 2 ^ 52) 1 (-52 - ((k + 1 : Nat) : Int) + -51) = .fin false c (-52 - (k : Int))
  refine FP.Core.roundRatio_exact FP.Core.good_b64 (by decide) (fit64 h1 h2 (by omega) (by omega)) ?_
  rw [show (-52 - ((k + 1 : Nat) : Int) + -51 - (-52 - (k : Int))).toNat = 0 by omega, show (-52 - (k : Int) - (-52 - ((k + 1 : Nat) : Int) + -51)).toNat = 52 by omega, Nat.pow_zero, Nat.mul_one, Nat.mul_one]
theorem cv_lt {x y : Int} (h : x < y) (op) : Op.cmpValue (some (compare x y)) op = -1 := by
  rw [(FP.Core.compare_lt_iff x y).mpr h]
  rfl
theorem cv_ge {x y : Int} (h : y ≤ x) (op) : 0 ≤ Op.cmpValue (some (compare x y)) op := by
  by_cases e : x = y
  · rw [(FP.Core.compare_eq_iff x y).mpr e]
    show (0 : Int32) ≤ 0
    decide
  · rw [(FP.Core.compare_gt_iff x y).mpr (by omega)]
    show (0 : Int32) ≤ 1
    decide
theorem ord_le {c d : Nat} {q r : Int} (h : q ≤ r) : FP.Core.order (.fin false c q) (.fin false d r) = some (compare (c : Int) ((d * 2 ^ (r - q).toNat : Nat) : Int)) := by
  show some (compare (FP.Core.signed false (FP.Core.inUnits c q (min q r))) (FP.Core.signed false (FP.Core.inUnits d r (min q r)))) = _
  rw [show min q r = q by omega]
  show some (compare ((c * 2 ^ (q - q).toNat : Nat) : Int) ((d * 2 ^ (r - q).toNat : Nat) : Int)) = _
  rw [show (q - q).toNat = 0 by omega, Nat.pow_zero, Nat.mul_one]
theorem ord_0 {c : Nat} {q r : Int} (hc : 0 < c) : FP.Core.order (.fin false c q) (.fin false 0 r) = some .gt := by
  show some (compare (FP.Core.signed false (FP.Core.inUnits c q (min q r))) (FP.Core.signed false (FP.Core.inUnits 0 r (min q r)))) = _
  refine congrArg some ((FP.Core.compare_gt_iff _ _).mpr ?_)
  show ((0 * 2 ^ (r - min q r).toNat : Nat) : Int) < ((c * 2 ^ (q - min q r).toNat : Nat) : Int)
  rw [Nat.zero_mul]
  exact Int.ofNat_lt.mpr (Nat.mul_pos hc (Nat.two_pow_pos _))
theorem nrm.cmp1 {k c : Nat} {v : UInt64} (h : nrm k c v) : FP.dcmp v FP.dconst1 = some (compare (c : Int) ((2 ^ 52 * 2 ^ k : Nat) : Int)) := by
  have h2 := ord_le (c := c) (d := 2 ^ 52) (q := -52 - (k : Int)) (r := -52) (by omega)
  rw [show (-52 - (-52 - (k : Int))).toNat = k by omega] at h2
  show FP.Core.order (FP.Core.val64 v) (FP.Core.val64 FP.dconst1) = _
  rw [h.1, val_one]
  exact h2
theorem nrm.cmp2 {k c : Nat} {v : UInt64} (h : nrm k c v) : FP.dcmp v 4611686018427387904 = some (compare (c : Int) ((2 ^ 52 * 2 ^ (k + 1) : Nat) : Int)) := by
  have h2 := ord_le (c := c) (d := 2 ^ 52) (q := -52 - (k : Int)) (r := -51) (by omega)
  rw [show (-51 - (-52 - (k : Int))).toNat = k + 1 by omega] at h2
  show FP.Core.order (FP.Core.val64 v) (FP.Core.val64 4611686018427387904) = _
  rw [h.1, val_two]
  exact h2
theorem nrm.cmp0 {k c : Nat} {v : UInt64} (h : nrm k c v) : FP.dcmp v FP.dconst0 = some .gt := by
  obtain ⟨h1, h2, -⟩ := h
  show FP.Core.order (FP.Core.val64 v) (FP.Core.val64 FP.dconst0) = _
  rw [h1, val_zero]
  exact ord_0 (by omega)
theorem big_k {c : Nat} (h : c < 2 ^ 53) (k : Nat) : (c : Int) < ((2 ^ 52 * 2 ^ (k + 1) : Nat) : Int) := by
  refine Int.ofNat_lt.mpr ?_
  have hp := Nat.two_pow_pos k
  rw [Nat.pow_succ]
  omega
theorem nrm_ge {c : Nat} {v : UInt64} (h : nrm 0 c v) (op) : 0 ≤ Op.cmpValue (FP.dcmp v FP.dconst1) op := by
  rw [h.cmp1]
  refine cv_ge (Int.ofNat_le.mpr ?_) op
  rw [Nat.pow_zero, Nat.mul_one]
  exact h.2.1
theorem nrm_lt {k c : Nat} {v : UInt64} (h : nrm (k + 1) c v) (op) : Op.cmpValue (FP.dcmp v FP.dconst1) op = -1 := by
  rw [h.cmp1]
  exact cv_lt (big_k h.2.2 k) op
theorem nL_s : ∀ n, n < 1024 → Int64.ofNat (n + 1) - 1 = Int64.ofNat n := by decide +kernel
/-- both loops double as often -/
theorem dbl_r (c : Nat) : ∀ (k : Nat) (v : UInt64), k ≤ 60 → nrm k c v → ∃ w, nrm 0 c w ∧ (∀ n, k ≤ n → boL n v = (w, n + 1 - k) ∧ boK n v) ∧ ∀ N m : Nat, k ≤ N → m + k < 1024 → brL N v (Int64.ofNat (m + k)) = (w, Int64.ofNat m) ∧ brK N v
  | 0, v, _, h => by
    have hg := nrm_ge h .g
    have hn : ¬ Op.cmpValue (FP.dcmp v FP.dconst1) .g < 0 := Int32.not_lt.mpr hg
    refine ⟨v, h, fun n _ => ?_, fun N m _ _ => ?_⟩
    · cases n with
      | zero => exact ⟨rfl, trivial⟩
      | succ n =>
        have e : boL (n + 1) v = (v, n + 2) := if_neg hn
        exact ⟨by rw [e, Nat.sub_zero], fun q => absurd q hn⟩
    · cases N with
      | zero => exact ⟨rfl, hg⟩
      | succ N =>
        have e : brL (N + 1) v (Int64.ofNat (m + 0)) = (v, Int64.ofNat (m + 0)) := if_pos hg
        exact ⟨by rw [e, Nat.add_zero], fun q => absurd hg q⟩
  | k + 1, v, hk, h => by
    have hl := nrm_lt h .g
    have h' := nrm_dbl (by omega) h
    obtain ⟨w, hw, h1, h2⟩ := dbl_r c k (FP.dmul v 4611686018427387904) (by omega) h'
    refine ⟨w, hw, fun n hn => ?_, fun N m hN hm => ?_⟩
    · obtain ⟨n, rfl⟩ : ∃ n', n = n' + 1 := ⟨n - 1, by omega⟩
      obtain ⟨a, b⟩ := h1 n (by omega)
      have hc : Op.cmpValue (FP.dcmp v FP.dconst1) .g < 0 := by rw [hl]; decide
      have e : boL (n + 1) v = boL n (FP.dmul v 4611686018427387904) := if_pos hc
      refine ⟨?_, fun _ => ⟨h'.n64, b⟩⟩
      rw [e, a, show n + 1 - k = n + 1 + 1 - (k + 1) by omega]
    · obtain ⟨N, rfl⟩ : ∃ n', N = n' + 1 := ⟨N - 1, by omega⟩
      obtain ⟨a, b⟩ := h2 N m (by omega) (by omega)
      have hc : ¬ 0 ≤ Op.cmpValue (FP.dcmp v FP.dconst1) .g := by rw [hl]; decide
      have e : brL (N + 1) v (Int64.ofNat (m + k + 1)) = brL N (FP.dmul v 4611686018427387904) (Int64.ofNat (m + k + 1) - 1) := if_neg hc
      refine ⟨?_, fun _ => ⟨h'.n64, b⟩⟩
      rw [show m + (k + 1) = m + k + 1 by omega, e, nL_s _ (by omega)]
      exact a
theorem end_r {c : Nat} {w : UInt64} (hw : FP.Core.val64 w = .fin false c (-52)) (h2 : c < 2 ^ 53) : FP.Core.DInt (c : Int) (FP.dmul w 4841369599423283200) := by
  show FP.Core.Whole (c : Int) (FP.Core.val64 (FP.Core.dmul w 4841369599423283200))
  rw [FP.Core.val64_dmul, hw, val_p52]
  refine FP.Core.whole_round FP.Core.good_b64 FP.Core.wide_b64 ?_ ?_
  · show (c : Int).natAbs ≤ 2 ^ 53
    omega
  · show ((c * 2 ^ 52 * 2 ^ (-52 + 0 : Int).toNat : Nat) : Int) = (c : Int) * ((2 ^ (-(-52 + 0 : Int)).toNat : Nat) : Int)
    rw [show (-52 + 0 : Int).toNat = 0 from rfl, show (-(-52 + 0 : Int)).toNat = 52 from rfl, Nat.pow_zero, Nat.mul_one, Int.natCast_mul]
theorem sub_one {c : Nat} (h1 : 2 ^ 52 ≤ c) : FP.Core.exactSum (.fin false c (-52)) (.fin true (2 ^ 52) (-52)) = .fin false (c - 2 ^ 52) (-52) := by
  have hV : FP.Core.sumUnits false c (-52) true (2 ^ 52) (-52) (-52) = ((c - 2 ^ 52 : Nat) : Int) := by
    show ((c * 2 ^ ((-52 : Int) - (-52)).toNat : Nat) : Int) + -((2 ^ 52 * 2 ^ ((-52 : Int) - (-52)).toNat : Nat) : Int) = _
    rw [show ((-52 : Int) - (-52)).toNat = 0 from rfl, Nat.pow_zero, Nat.mul_one, Nat.mul_one]
    omega
  have hs : FP.Core.sumSign false true ((c - 2 ^ 52 : Nat) : Int) = false := by
    unfold FP.Core.sumSign
    split
    · rfl
    · exact decide_eq_false (by omega)
  show FP.Core.Datum.fin (FP.Core.sumSign false true (FP.Core.sumUnits false c (-52) true (2 ^ 52) (-52) (min (-52) (-52)))) (FP.Core.sumUnits false c (-52) true (2 ^ 52) (-52) (min (-52) (-52))).natAbs (min (-52) (-52)) = _
  rw [show min (-52 : Int) (-52) = -52 from rfl, hV, hs, Int.natAbs_natCast]
theorem pw_1 {x i n A B : Nat} (h : x * 2 ^ (n + (A + B)) = i * 2 ^ B) : x * 2 ^ A * 2 ^ n = i := by
  refine Nat.eq_of_mul_eq_mul_right (Nat.two_pow_pos B) ?_
  rw [← h, Nat.pow_add, Nat.pow_add]
  ac_rfl
theorem pw_2 {x i n m A B : Nat} (hm : m + n = A + B) (h : x * 2 ^ m = i * 2 ^ B) : x * 2 ^ A = i * 2 ^ n := by
  refine Nat.eq_of_mul_eq_mul_right (Nat.two_pow_pos m) ?_
  have e : i * 2 ^ n * 2 ^ m = i * 2 ^ B * 2 ^ A := by
    rw [Nat.mul_assoc, ← Nat.pow_add, Nat.mul_assoc, ← Nat.pow_add, show n + m = B + A by omega]
  rw [e, ← h]
  ac_rfl
theorem end_s {c : Nat} {w : UInt64} (hw : FP.Core.val64 w = .fin false c (-52)) (h1 : 2 ^ 52 ≤ c) (h2 : c < 2 ^ 53) : vf_n64 (FP.dsub w FP.dconst1) ∧ FP.Core.DInt ((c - 2 ^ 52 : Nat) : Int) (FP.dmul (FP.dsub w FP.dconst1) 4841369599423283200) := by
  have hs : FP.Core.val64 (FP.Core.dsub w FP.dconst1) = FP.Core.round FP.Core.b64 (.fin false (c - 2 ^ 52) (-52)) := by
    rw [FP.Core.val64_dsub, hw, val_one]
    exact congrArg (FP.Core.round FP.Core.b64) (sub_one h1)
  obtain ⟨c', q', e1, e2⟩ := FP.Core.round_exact FP.Core.good_b64 false (c := c - 2 ^ 52) (q := -52) (by show c - 2 ^ 52 < 2 ^ 53; omega) (by rw [FP.Core.qmin_b64]; decide) (by rw [qmax_64]; decide)
  rw [e1] at hs
  have hf := FP.Core.val64_fits (FP.Core.dsub w FP.dconst1)
  rw [hs] at hf
  obtain ⟨-, hq, -, -⟩ := hf
  rw [FP.Core.qmin_b64] at hq e2
  obtain ⟨B, hB⟩ : ∃ B : Nat, B = 1022 := ⟨_, rfl⟩
  have iU : ∀ (c : Nat) (q e : Int), FP.Core.inUnits c q e = c * 2 ^ (q - e).toNat := fun _ _ _ => rfl
  have e3 := e2
  rw [iU, iU, show ((-52 : Int) - -1074).toNat = B by omega] at e3
  clear e2
  refine ⟨n64_of (by rw [show FP.Core.val64 (FP.dsub w FP.dconst1) = _ from hs]; exact FP.Core.Datum.noConfusion), ?_⟩
  show FP.Core.Whole _ (FP.Core.val64 (FP.Core.dmul (FP.Core.dsub w FP.dconst1) 4841369599423283200))
  rw [FP.Core.val64_dmul, hs, val_p52]
  refine FP.Core.whole_round FP.Core.good_b64 FP.Core.wide_b64 ?_ ?_
  · show ((c - 2 ^ 52 : Nat) : Int).natAbs ≤ 2 ^ 53
    omega
  · show ((c' * 2 ^ 52 * 2 ^ (q' + 0).toNat : Nat) : Int) = ((c - 2 ^ 52 : Nat) : Int) * ((2 ^ (-(q' + 0)).toNat : Nat) : Int)
    rw [Int.add_zero, ← Int.natCast_mul]
    refine congrArg (fun n : Nat => (n : Int)) ?_
    generalize c - 2 ^ 52 = i at e3 ⊢
    by_cases hq0 : 0 ≤ q'
    · rw [show (q' - -1074).toNat = q'.toNat + (52 + B) by omega] at e3
      rw [show (-q').toNat = 0 by omega, Nat.pow_zero, Nat.mul_one]
      exact pw_1 e3
    · rw [show q'.toNat = 0 by omega, Nat.pow_zero, Nat.mul_one]
      exact pw_2 (m := (q' - -1074).toNat) (B := B) (by omega) e3
/-- the bits alike -/
theorem bits_r {k c : Nat} {x : UInt64} (hk : k ≤ 60) (h : nrm k c x) : bitV x = brV 60 x ∧ bitK x ∧ brQ 60 x := by
  obtain ⟨w, hw, h1, h2⟩ := dbl_r c k x hk h
  obtain ⟨a1, b1⟩ := h1 1022 (by omega)
  obtain ⟨a2, b2⟩ := h2 60 (1023 - k) hk (by omega)
  have e10 : (1023 : Int64) = Int64.ofNat (1023 - k + k) := by rw [Nat.sub_add_cancel (by omega)]; rfl
  rw [← e10] at a2
  have hw1 : FP.Core.val64 w = .fin false c (-52) := hw.1
  have hc1 := hw.2.1
  have hc2 := hw.2.2
  have dr := end_r hw1 hc2
  obtain ⟨ns, ds⟩ := end_s hw1 hc1 hc2
  have f1 : FP.d2l (FP.dmul w 4841369599423283200) = Int64.ofNat c := FP.Core.d2l_int (by rw [Int64.toInt_ofNat_of_lt (by omega)]; exact dr)
  have f2 : FP.d2l (FP.dmul (FP.dsub w FP.dconst1) 4841369599423283200) = Int64.ofNat (c - 2 ^ 52) := FP.Core.d2l_int (by rw [Int64.toInt_ofNat_of_lt (by omega)]; exact ds)
  have g0 : 0 < Op.cmpValue (FP.dcmp x FP.dconst0) .g := by
    rw [h.cmp0]
    show (0 : Int32) < 1
    decide
  have g1 : ¬ Op.cmpValue (FP.dcmp x FP.dconst0) .l = 0 := by
    rw [h.cmp0]
    show ¬ (1 : Int32) = 0
    decide
  have g2 : Op.cmpValue (FP.dcmp x 4611686018427387904) .l < 0 := by
    rw [h.cmp2, cv_lt (big_k h.2.2 k)]
    decide
  refine ⟨?_, ⟨b1, ?_, ?_⟩, g2, b2, ?_⟩
  · unfold bitV brV brE
    rw [if_pos g0, if_neg g1, a1, a2]
    show (Int64.ofNat (1022 + 1 - k) <<< ((52 : Int32).toInt64 &&& 63)) + FP.d2l (FP.dmul (FP.dsub w FP.dconst1) 4841369599423283200) = (Int64.ofNat (1023 - k) <<< ((52 : Int32).toInt64 &&& 63)) + FP.d2l (FP.dmul w 4841369599423283200) - 4503599627370496
    rw [f1, f2, Int64.ofNat_sub _ _ hc1, show (4503599627370496 : Int64) = Int64.ofNat (2 ^ 52) from rfl]
    generalize Int64.ofNat (2 ^ 52) = z
    generalize Int64.ofNat (1023 - k) <<< ((52 : Int32).toInt64 &&& 63) = y
    rw [Int64.sub_eq_add_neg, Int64.sub_eq_add_neg, Int64.add_assoc]
  · rw [a1]
    exact ns
  · rw [a1]
    exact n64_of (FP.Core.Whole.ne_nan ds)
  · rw [a2]
    exact n64_of (FP.Core.Whole.ne_nan dr)
