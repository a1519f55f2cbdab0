/-! THE TEXT READ on both sides: the class letter by letter, the reference part by part -/
def Ts (T : gTxt) (s : Nat) (t c d : Int32) : gTxt := (xCod T, xLen T, xTon T, xCub T, xDay T, xPrt T, s, t, c, d)
/-- letters from 33 to 126 -/
def bfOK (bf : Nat → Int32) (ty : Nat) : Prop := ∀ i, i < ty → ∃ k, 33 ≤ k ∧ k ≤ 126 ∧ bf i = nI k
theorem ltI_at {bf : Nat → Int32} {ty i : Nat} (h : i < ty) : ltI bf ty i = bf i := if_neg (by omega)
theorem c_lt {k n : Nat} (hk : k ≤ 1000000) (hn : n ≤ 1000000) : nI k < nI n ↔ k < n := nI_ltI (by omega) (by omega)
theorem c_le {k n : Nat} (hk : k ≤ 1000000) (hn : n ≤ 1000000) : nI k ≤ nI n ↔ k ≤ n := nI_leI (by omega) (by omega)
theorem c_d {k : Nat} (hk : 33 ≤ k) (hk2 : k ≤ 126) : (nI k - 48 < 0 ∨ 9 < nI k - 48) ↔ ¬ (48 ≤ k ∧ k ≤ 57) := by
  have e : (nI k - 48).toInt = (k : Int) - 48 := by
    rw [is (by rw [iN (by omega)]; exact Int.le_trans (by decide) (Int.sub_le_sub_right (Int.ofNat_le.mpr hk) 48)) (by rw [iN (by omega), show (48 : Int32).toInt = 48 from rfl]; omega), iN (by omega)]
    rfl
  rw [ilt, ilt, e, i0, show (9 : Int32).toInt = 9 from rfl]
  omega
theorem dig_k {k : Nat} (hk2 : k ≤ 126) : dig (nI k) = true ↔ 48 ≤ k ∧ k ≤ 57 := by
  unfold dig
  rw [Bool.and_eq_true, decide_eq_true_iff, decide_eq_true_iff]
  exact and_congr (c_le (k := 48) (by omega) (by omega)) (c_le (n := 57) (by omega) (by omega))
theorem bI_dig {k : Nat} (hk2 : k ≤ 126) : bI (dig (nI k)) = 0 ↔ ¬ (48 ≤ k ∧ k ≤ 57) := by
  rw [← dig_k hk2]
  refine ⟨fun q => by rw [bI_f q]; simp, fun q => ?_⟩
  cases hz : dig (nI k) with
  | true => exact absurd hz q
  | false => rfl
theorem c_v {m k : Nat} (hk : 48 ≤ k) : 10 * nI m + (nI k - 48) = nI (10 * m + (k - 48)) := gadd (gmul (gk 10) rfl) (gsub rfl (gk 48) hk)
theorem c_v2 {m k : Nat} (hk : 48 ≤ k) : 10 * nI m + nI k - 48 = nI (10 * m + (k - 48)) := by
  rw [Int32.sub_eq_add_neg, Int32.add_assoc, ← Int32.sub_eq_add_neg, c_v hk]
/-- the digits of the cubes -/
theorem rd_1 {bf : Nat → Int32} {ty : Nat} (hb : bfOK bf ty) {T : gTxt} (hc : ∀ i, i < ty → xCod T i = bf i) (t d : Int32) : ∀ (n i m : Nat), i + n = ty → 1 ≤ m → m ≤ 500 → ∃ m' p, nmL bf ty 500 n (nI m) i = (nI m', p) ∧ i ≤ p ∧ p ≤ ty ∧ 1 ≤ m' ∧ m' ≤ 500 ∧ rdR n i (Ts T 1 t (nI m) d) = rdR (ty - p) p (Ts T 1 t (nI m') d) ∧ (p < ty → ∀ k, bf p = nI k → k ≤ 126 → ¬ (48 ≤ k ∧ k ≤ 57 ∧ 10 * m' + (k - 48) ≤ 500))
  | 0, i, m, hi, h1, h5 => ⟨m, i, rfl, Nat.le_refl i, by omega, h1, h5, by rw [show ty - i = 0 by omega], fun h => by omega⟩
  | n + 1, i, m, hi, h1, h5 => by
    obtain ⟨k, k1, k2, hk⟩ := hb i (by omega)
    have stop : (¬ (48 ≤ k ∧ k ≤ 57 ∧ 10 * m + (k - 48) ≤ 500)) → nmL bf ty 500 (n + 1) (nI m) i = (nI m, i) → ∃ m' p, nmL bf ty 500 (n + 1) (nI m) i = (nI m', p) ∧ i ≤ p ∧ p ≤ ty ∧ 1 ≤ m' ∧ m' ≤ 500 ∧ rdR (n + 1) i (Ts T 1 t (nI m) d) = rdR (ty - p) p (Ts T 1 t (nI m') d) ∧ (p < ty → ∀ k, bf p = nI k → k ≤ 126 → ¬ (48 ≤ k ∧ k ≤ 57 ∧ 10 * m' + (k - 48) ≤ 500)) := fun hs he =>
      ⟨m, i, he, Nat.le_refl i, by omega, h1, h5, by rw [show ty - i = n + 1 by omega], fun _ k' hk' hk2' => by
        have := (nI_eq (a := k') (b := k) (by omega) (by omega)).mp (hk'.symm.trans hk)
        rw [this]
        exact hs⟩
    have hm0 : ¬ nI m ≤ 0 := mt (c_le (n := 0) (by omega) (by omega)).mp (by omega)
    by_cases q1 : 48 ≤ k ∧ k ≤ 57
    · have q1' : ¬ (ltI bf ty i - 48 < 0 ∨ 9 < ltI bf ty i - 48) := by
        rw [ltI_at (by omega), hk, c_d k1 k2]
        exact fun q => q q1
      have hv : 10 * nI m + (ltI bf ty i - 48) = nI (10 * m + (k - 48)) := by
        rw [ltI_at (by omega), hk]
        exact c_v q1.1
      by_cases q2 : 10 * m + (k - 48) ≤ 500
      · have q2' : ¬ 500 < 10 * nI m + (ltI bf ty i - 48) := by
          rw [hv]
          exact mt (c_lt (k := 500) (by omega) (by omega)).mp (by omega)
        obtain ⟨m', p, e1, e2, e3, e4, e5, e6, e7⟩ := rd_1 hb hc t d n (i + 1) (10 * m + (k - 48)) (by omega) (by omega) q2
        refine ⟨m', p, ?_, by omega, e3, e4, e5, ?_, e7⟩
        · unfold nmL
          rw [if_neg hm0, if_neg q1', if_neg q2', hv]
          exact e1
        · have ha : acc (Ts T 1 t (nI m) d) (xCod (Ts T 1 t (nI m) d) i) = (true, Ts T 1 t (nI (10 * m + (k - 48))) d) := by
            show acc (Ts T 1 t (nI m) d) (xCod T i) = _
            rw [hc i (by omega), hk]
            show aC (Ts T 1 t (nI m) d) (nI k) = _
            unfold aC
            rw [if_pos (show nI k < 97 from (c_lt (n := 97) (by omega) (by omega)).mpr (by omega))]
            unfold aCn
            rw [if_neg (fun q => (bI_dig k2).mp q q1)]
            show (if 10 * nI m + nI k - 48 ≤ 500 then _ else _) = _
            rw [c_v2 q1.1, if_pos (show nI (10 * m + (k - 48)) ≤ 500 from (c_le (n := 500) (by omega) (by omega)).mpr q2)]
            show (true, (xCod T, xLen T, xTon T, xCub T, xDay T, xPrt T, 1, t, 10 * nI m + nI k - 48, d)) = _
            rw [c_v2 q1.1]
            rfl
          show (if bI (acc (Ts T 1 t (nI m) d) (xCod (Ts T 1 t (nI m) d) i)).1 = 0 then _ else _) = _
          rw [ha, if_neg (show ¬ bI true = 0 by decide)]
          exact e6
      · have q2' : 500 < 10 * nI m + (ltI bf ty i - 48) := by
          rw [hv]
          exact (c_lt (k := 500) (by omega) (by omega)).mpr (by omega)
        refine stop (fun q => q2 q.2.2) ?_
        unfold nmL
        rw [if_neg hm0, if_neg q1', if_pos q2']
    · refine stop (fun q => q1 ⟨q.1, q.2.1⟩) ?_
      unfold nmL
      rw [if_neg hm0, if_pos (by rw [ltI_at (by omega), hk, c_d k1 k2]; exact q1)]
/-- the digits of the day -/
theorem rd_4 {bf : Nat → Int32} {ty : Nat} (hb : bfOK bf ty) {T : gTxt} (hc : ∀ i, i < ty → xCod T i = bf i) (t c : Int32) : ∀ (n i m : Nat), i + n = ty → m ≤ 999 → ∃ m' p, nmL bf ty 999 n (nI m) i = (nI m', p) ∧ i ≤ p ∧ p ≤ ty ∧ m' ≤ 999 ∧ rdR n i (Ts T 4 t c (nI m)) = rdR (ty - p) p (Ts T 4 t c (nI m')) ∧ (p < ty → ∀ k, bf p = nI k → k ≤ 126 → ¬ (1 ≤ m' ∧ 48 ≤ k ∧ k ≤ 57 ∧ 10 * m' + (k - 48) ≤ 999))
  | 0, i, m, hi, h5 => ⟨m, i, rfl, Nat.le_refl i, by omega, h5, by rw [show ty - i = 0 by omega], fun h => by omega⟩
  | n + 1, i, m, hi, h5 => by
    obtain ⟨k, k1, k2, hk⟩ := hb i (by omega)
    have stop : (¬ (1 ≤ m ∧ 48 ≤ k ∧ k ≤ 57 ∧ 10 * m + (k - 48) ≤ 999)) → nmL bf ty 999 (n + 1) (nI m) i = (nI m, i) → ∃ m' p, nmL bf ty 999 (n + 1) (nI m) i = (nI m', p) ∧ i ≤ p ∧ p ≤ ty ∧ m' ≤ 999 ∧ rdR (n + 1) i (Ts T 4 t c (nI m)) = rdR (ty - p) p (Ts T 4 t c (nI m')) ∧ (p < ty → ∀ k, bf p = nI k → k ≤ 126 → ¬ (1 ≤ m' ∧ 48 ≤ k ∧ k ≤ 57 ∧ 10 * m' + (k - 48) ≤ 999)) := fun hs he =>
      ⟨m, i, he, Nat.le_refl i, by omega, h5, by rw [show ty - i = n + 1 by omega], fun _ k' hk' hk2' => by
        have := (nI_eq (a := k') (b := k) (by omega) (by omega)).mp (hk'.symm.trans hk)
        rw [this]
        exact hs⟩
    by_cases q0 : m = 0
    · refine stop (fun q => by omega) ?_
      unfold nmL
      rw [if_pos (show nI m ≤ 0 from (c_le (n := 0) (by omega) (by omega)).mpr (by omega))]
    · have hm0 : ¬ nI m ≤ 0 := mt (c_le (n := 0) (by omega) (by omega)).mp (by omega)
      by_cases q1 : 48 ≤ k ∧ k ≤ 57
      · have q1' : ¬ (ltI bf ty i - 48 < 0 ∨ 9 < ltI bf ty i - 48) := by
          rw [ltI_at (by omega), hk, c_d k1 k2]
          exact fun q => q q1
        have hv : 10 * nI m + (ltI bf ty i - 48) = nI (10 * m + (k - 48)) := by
          rw [ltI_at (by omega), hk]
          exact c_v q1.1
        by_cases q2 : 10 * m + (k - 48) ≤ 999
        · have q2' : ¬ 999 < 10 * nI m + (ltI bf ty i - 48) := by
            rw [hv]
            exact mt (c_lt (k := 999) (by omega) (by omega)).mp (by omega)
          obtain ⟨m', p, e1, e2, e3, e5, e6, e7⟩ := rd_4 hb hc t c n (i + 1) (10 * m + (k - 48)) (by omega) q2
          refine ⟨m', p, ?_, by omega, e3, e5, ?_, e7⟩
          · unfold nmL
            rw [if_neg hm0, if_neg q1', if_neg q2', hv]
            exact e1
          · have ha : acc (Ts T 4 t c (nI m)) (xCod (Ts T 4 t c (nI m)) i) = (true, Ts T 4 t c (nI (10 * m + (k - 48)))) := by
              show acc (Ts T 4 t c (nI m)) (xCod T i) = _
              rw [hc i (by omega), hk]
              show aD (Ts T 4 t c (nI m)) (nI k) = _
              unfold aD
              rw [if_neg (show ¬ nI k = 59 from mt (nI_eq (b := 59) (by omega) (by omega)).mp (by omega)), if_neg (fun q => (bI_dig k2).mp q q1), if_neg (show ¬ xD (Ts T 4 t c (nI m)) = 0 from mt (nI_eq (b := 0) (by omega) (by omega)).mp q0)]
              show (if 10 * nI m + nI k - 48 ≤ 999 then _ else _) = _
              rw [c_v2 q1.1, if_pos (show nI (10 * m + (k - 48)) ≤ 999 from (c_le (n := 999) (by omega) (by omega)).mpr q2)]
              show (true, (xCod T, xLen T, xTon T, xCub T, xDay T, xPrt T, 4, t, c, 10 * nI m + nI k - 48)) = _
              rw [c_v2 q1.1]
              rfl
            show (if bI (acc (Ts T 4 t c (nI m)) (xCod (Ts T 4 t c (nI m)) i)).1 = 0 then _ else _) = _
            rw [ha, if_neg (show ¬ bI true = 0 by decide)]
            exact e6
        · have q2' : 999 < 10 * nI m + (ltI bf ty i - 48) := by
            rw [hv]
            exact (c_lt (k := 999) (by omega) (by omega)).mpr (by omega)
          refine stop (fun q => q2 q.2.2.2) ?_
          unfold nmL
          rw [if_neg hm0, if_neg q1', if_pos q2']
      · refine stop (fun q => q1 ⟨q.2.1, q.2.2.1⟩) ?_
        unfold nmL
        rw [if_neg hm0, if_pos (by rw [ltI_at (by omega), hk, c_d k1 k2]; exact q1)]
