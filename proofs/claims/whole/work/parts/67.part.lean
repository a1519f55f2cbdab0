/-! ONE PART of the text on both sides -/
/-- the class stops at the place of which w speaks, its text not whole there -/
def WR (ty sp : Nat) (T : gTxt) (w : Int32) : Prop := ∃ p T', rdR (ty - sp) sp T = (p, T') ∧ w = nI p ∧ p ≤ ty ∧ (p = ty → ¬ xStg T' = 4)
theorem WR.end_ {ty sp : Nat} {T : gTxt} (h : sp = ty) (hs : ¬ xStg T = 4) : WR ty sp T (nI sp) := by
  subst h
  exact ⟨sp, T, by rw [Nat.sub_self]; rfl, rfl, Nat.le_refl sp, fun _ => hs⟩
theorem WR.bad {ty sp : Nat} {T : gTxt} (h : sp < ty) {T' : gTxt} (ha : acc T (xCod T sp) = (false, T')) : WR ty sp T (nI sp) := by
  refine ⟨sp, T', ?_, rfl, Nat.le_of_lt h, fun q => by omega⟩
  rw [show ty - sp = ty - (sp + 1) + 1 by omega]
  show (if bI (acc T (xCod T sp)).1 = 0 then _ else _) = _
  rw [ha]
  rfl
theorem rd_st {ty sp : Nat} {T : gTxt} (h : sp < ty) {T' : gTxt} (ha : acc T (xCod T sp) = (true, T')) : rdR (ty - sp) sp T = rdR (ty - (sp + 1)) (sp + 1) T' := by
  rw [show ty - sp = ty - (sp + 1) + 1 by omega]
  show (if bI (acc T (xCod T sp)).1 = 0 then _ else _) = _
  rw [ha, if_neg (show ¬ bI true = 0 by decide)]
theorem WR.of {ty sp p : Nat} {T T' : gTxt} {w : Int32} (h : rdR (ty - sp) sp T = rdR (ty - p) p T') (k : WR ty p T' w) : WR ty sp T w := by
  unfold WR
  rw [h]
  exact k
theorem c_s48 {k : Nat} (hk : 48 ≤ k) : nI k - 48 = nI (k - 48) := gsub rfl (gk 48) hk
theorem c_d1 {k : Nat} (hk : 33 ≤ k) (hk2 : k ≤ 126) : (nI k - 48 < 1 ∨ 9 < nI k - 48) ↔ ¬ (49 ≤ k ∧ k ≤ 57) := by
  have e : (nI k - 48).toInt = (k : Int) - 48 := by
    rw [is (by rw [iN (by omega)]; exact Int.le_trans (by decide) (Int.sub_le_sub_right (Int.ofNat_le.mpr hk) 48)) (by rw [iN (by omega), show (48 : Int32).toInt = 48 from rfl]; omega), iN (by omega)]
    rfl
  rw [ilt, ilt, e, i1, show (9 : Int32).toInt = 9 from rfl]
  omega
theorem isTn_k {k : Nat} (hk : 33 ≤ k) (hk2 : k ≤ 126) : isTn (nI k - 97) = true ↔ 97 ≤ k ∧ k ≤ 100 := by
  have e : (nI k - 97).toInt = (k : Int) - 97 := by
    rw [is (by rw [iN (by omega)]; exact Int.le_trans (by decide) (Int.sub_le_sub_right (Int.ofNat_le.mpr hk) 97)) (by rw [iN (by omega), show (97 : Int32).toInt = 97 from rfl]; omega), iN (by omega)]
    rfl
  unfold isTn
  rw [decide_eq_true_iff, ilt, ile, e, i0, show (4 : Int32).toInt = 4 from rfl]
  omega
theorem pt_A {bf : Nat → Int32} {ty : Nat} (hb : bfOK bf ty) {T : gTxt} (hc : ∀ i, i < ty → xCod T i = bf i) {sp : Nat} (hs : sp ≤ ty) (h60 : ty ≤ 60) (t c d : Int32) : (∃ v q, rpA bf ty sp = (v, q, nI sp) ∧ WR ty sp (Ts T 0 t c d) (nI sp)) ∨ ∃ m p, rpA bf ty sp = (nI m, p, -1) ∧ sp + 1 ≤ p ∧ p ≤ ty ∧ 1 ≤ m ∧ m ≤ 500 ∧ rdR (ty - sp) sp (Ts T 0 t c d) = rdR (ty - p) p (Ts T 1 t (nI m) d) ∧ (p < ty → ∀ k, bf p = nI k → k ≤ 126 → ¬ (48 ≤ k ∧ k ≤ 57 ∧ 10 * m + (k - 48) ≤ 500)) := by
  unfold rpA nmR
  rw [if_pos rfl]
  by_cases hsp : sp < ty
  · obtain ⟨k, k1, k2, hk⟩ := hb sp hsp
    have ec : xCod (Ts T 0 t c d) sp = nI k := (hc sp hsp).trans hk
    rw [ltI_at hsp, hk]
    by_cases q : 49 ≤ k ∧ k ≤ 57
    · rw [if_neg (fun x => (c_d1 k1 k2).mp x q), c_s48 (by omega)]
      obtain ⟨m', p, e1, e2, e3, e4, e5, e6, e7⟩ := rd_1 hb hc t d (ty - (sp + 1)) (sp + 1) (k - 48) (by omega) (by omega) (by omega)
      refine Or.inr ⟨m', p, by rw [e1], e2, e3, e4, e5, ?_, e7⟩
      have ha : acc (Ts T 0 t c d) (xCod (Ts T 0 t c d) sp) = (true, Ts T 1 t (nI (k - 48)) d) := by
        rw [ec]
        show aF (Ts T 0 t c d) (nI k) = _
        unfold aF
        rw [if_neg (show ¬ nI k < 49 from mt (c_lt (n := 49) (by omega) (by omega)).mp (by omega)), if_pos (show nI k ≤ 57 from (c_le (n := 57) (by omega) (by omega)).mpr q.2)]
        show (true, (xCod T, xLen T, xTon T, xCub T, xDay T, xPrt T, 1, t, nI k - 48, d)) = _
        rw [c_s48 (by omega)]
        rfl
      exact (rd_st hsp ha).trans e6
    · rw [if_pos ((c_d1 k1 k2).mpr q)]
      refine Or.inl ⟨_, _, rfl, WR.bad hsp (T' := Ts T 0 t c d) ?_⟩
      rw [ec]
      show aF (Ts T 0 t c d) (nI k) = _
      unfold aF
      by_cases q2 : k < 49
      · rw [if_pos (show nI k < 49 from (c_lt (n := 49) (by omega) (by omega)).mpr q2)]
      · rw [if_neg (show ¬ nI k < 49 from mt (c_lt (n := 49) (by omega) (by omega)).mp q2), if_neg (show ¬ nI k ≤ 57 from mt (c_le (n := 57) (by omega) (by omega)).mp (by omega))]
  · have e : ltI bf ty sp = -1 := if_pos (by omega)
    rw [e, if_pos (by decide)]
    exact Or.inl ⟨_, _, rfl, WR.end_ (by omega) (show ¬ (0 : Nat) = 4 by decide)⟩
theorem pt_C {bf : Nat → Int32} {ty : Nat} (hb : bfOK bf ty) {T : gTxt} (hc : ∀ i, i < ty → xCod T i = bf i) {p m : Nat} (hp : p ≤ ty) (hm5 : m ≤ 500) (t d : Int32) (hst : p < ty → ∀ k, bf p = nI k → k ≤ 126 → ¬ (48 ≤ k ∧ k ≤ 57 ∧ 10 * m + (k - 48) ≤ 500)) : (isTn (ltI bf ty p - 97) = false ∧ WR ty p (Ts T 1 t (nI m) d) (nI p)) ∨ ∃ k, k < 4 ∧ p < ty ∧ isTn (ltI bf ty p - 97) = true ∧ ltI bf ty p - 97 = nI k ∧ rdR (ty - p) p (Ts T 1 t (nI m) d) = rdR (ty - (p + 1)) (p + 1) (Ts T 2 (nI k) (nI m) d) := by
  by_cases hsp : p < ty
  · obtain ⟨k, k1, k2, hk⟩ := hb p hsp
    have ec : xCod (Ts T 1 t (nI m) d) p = nI k := (hc p hsp).trans hk
    have hst := hst hsp k hk k2
    rw [ltI_at hsp, hk]
    by_cases q : 97 ≤ k ∧ k ≤ 100
    · have e97 : nI k - 97 = nI (k - 97) := gsub rfl (gk 97) q.1
      refine Or.inr ⟨k - 97, by omega, hsp, (isTn_k k1 k2).mpr q, e97, rd_st hsp ?_⟩
      rw [ec]
      show aC (Ts T 1 t (nI m) d) (nI k) = _
      unfold aC
      rw [if_neg (show ¬ nI k < 97 from mt (c_lt (n := 97) (by omega) (by omega)).mp (by omega)), if_neg (show ¬ 101 ≤ nI k from mt (c_le (k := 101) (by omega) (by omega)).mp (by omega)), e97]
      rfl
    · refine Or.inl ⟨?_, WR.bad hsp (T' := Ts T 1 t (nI m) d) ?_⟩
      · cases hz : isTn (nI k - 97) with
        | true => exact absurd ((isTn_k k1 k2).mp hz) q
        | false => rfl
      · rw [ec]
        show aC (Ts T 1 t (nI m) d) (nI k) = _
        have hn : aCn (Ts T 1 t (nI m) d) (nI k) = (false, Ts T 1 t (nI m) d) := by
          unfold aCn
          by_cases q2 : 48 ≤ k ∧ k ≤ 57
          · rw [if_neg (fun x => (bI_dig k2).mp x q2)]
            show (if 10 * nI m + nI k - 48 ≤ 500 then _ else _) = _
            rw [c_v2 q2.1, if_neg]
            intro x
            have hx : nI (10 * m + (k - 48)) ≤ nI 500 := x
            exact hst ⟨q2.1, q2.2, (c_le (by omega) (by omega)).mp hx⟩
          · rw [if_pos ((bI_dig k2).mpr q2)]
        unfold aC
        by_cases q3 : k < 97
        · rw [if_pos (show nI k < 97 from (c_lt (n := 97) (by omega) (by omega)).mpr q3)]
          exact hn
        · rw [if_neg (show ¬ nI k < 97 from mt (c_lt (n := 97) (by omega) (by omega)).mp q3), if_pos (show 101 ≤ nI k from (c_le (k := 101) (by omega) (by omega)).mpr (by omega))]
          exact hn
  · have e : ltI bf ty p = -1 := if_pos (by omega)
    rw [e]
    exact Or.inl ⟨by decide, WR.end_ (by omega) (show ¬ (1 : Nat) = 4 by decide)⟩
