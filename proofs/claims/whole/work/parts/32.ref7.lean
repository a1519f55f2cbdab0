/-! THE REFERENCE's methods: texts. Printed by wip/whole/meths19.py -/
def ltI (bf : Nat → Int32) (ty sp : Nat) : Int32 := if ty ≤ sp then -1 else bf sp
def nmL (bf : Nat → Int32) (ty : Nat) (b : Int32) : Nat → Int32 → Nat → Int32 × Nat
  | 0, v, sp => (v, sp)
  | n + 1, v, sp => if v ≤ 0 then (v, sp) else if ltI bf ty sp - 48 < 0 ∨ 9 < ltI bf ty sp - 48 then (v, sp) else if b < 10 * v + (ltI bf ty sp - 48) then (v, sp) else nmL bf ty b n (10 * v + (ltI bf ty sp - 48)) (sp + 1)
/-- a number is read from sp on: its value, where it ends, what was wrong -/
def nmR (bf : Nat → Int32) (ty : Nat) (a b : Int32) (sp : Nat) (wr : Int32) : Int32 × Nat × Int32 :=
  if wr = -1 then if ltI bf ty sp - 48 < a ∨ 9 < ltI bf ty sp - 48 then (ltI bf ty sp - 48, sp + 1, nI sp) else ((nmL bf ty b (ty - (sp + 1)) (ltI bf ty sp - 48) (sp + 1)).1, (nmL bf ty b (ty - (sp + 1)) (ltI bf ty sp - 48) (sp + 1)).2, -1) else (ltI bf ty sp - 48, sp, wr)
def wtR (c : Bool) (sp : Nat) (wr : Int32) : Nat × Int32 := if wr = -1 then (sp + 1, if c = true then -1 else nI sp) else (sp, wr)
def spOK (ty sp : Nat) (wr : Int32) : Prop := sp ≤ ty + 1 ∧ (wr = -1 → sp ≤ ty)
theorem ltI_in {bf : Nat → Int32} {ty sp : Nat} (h : ¬ ltI bf ty sp = -1) : sp < ty := by
  unfold ltI at h
  by_cases h1 : ty ≤ sp
  · rw [if_pos h1] at h
    exact absurd rfl h
  · omega
theorem nmL_ok {bf : Nat → Int32} {ty : Nat} {b : Int32} : ∀ (n : Nat) (v : Int32) (sp : Nat), sp ≤ ty → sp ≤ (nmL bf ty b n v sp).2 ∧ (nmL bf ty b n v sp).2 ≤ ty
  | 0, v, sp, h => ⟨Nat.le_refl _, h⟩
  | n + 1, v, sp, h => by
    unfold nmL
    by_cases h1 : v ≤ 0
    · rw [if_pos h1]; exact ⟨Nat.le_refl _, h⟩
    · rw [if_neg h1]
      by_cases h2 : ltI bf ty sp - 48 < 0 ∨ 9 < ltI bf ty sp - 48
      · rw [if_pos h2]; exact ⟨Nat.le_refl _, h⟩
      · rw [if_neg h2]
        by_cases h3 : b < 10 * v + (ltI bf ty sp - 48)
        · rw [if_pos h3]; exact ⟨Nat.le_refl _, h⟩
        · rw [if_neg h3]
          have hl : sp < ty := ltI_in (fun q => h2 (Or.inl (by rw [q]; decide)))
          obtain ⟨a1, a2⟩ := nmL_ok (bf := bf) (ty := ty) (b := b) n (10 * v + (ltI bf ty sp - 48)) (sp + 1) (by omega)
          exact ⟨by omega, a2⟩
theorem nmR_ok {bf : Nat → Int32} {ty sp : Nat} {a b wr : Int32} (ha : 0 ≤ a) (hb : ty ≤ 60) (h : spOK ty sp wr) : spOK ty (nmR bf ty a b sp wr).2.1 (nmR bf ty a b sp wr).2.2 ∧ ((nmR bf ty a b sp wr).2.2 = -1 → wr = -1 ∧ sp + 1 ≤ (nmR bf ty a b sp wr).2.1) := by
  unfold nmR
  by_cases hw : wr = -1
  · rw [if_pos hw]
    have hs := h.2 hw
    by_cases h1 : ltI bf ty sp - 48 < a ∨ 9 < ltI bf ty sp - 48
    · rw [if_pos h1]
      have hn : ¬ nI sp = -1 := nI_ne_m1 (by omega)
      exact ⟨⟨by show sp + 1 ≤ ty + 1; omega, fun q => absurd q hn⟩, fun q => absurd q hn⟩
    · rw [if_neg h1]
      have hl : sp < ty := ltI_in (fun q => h1 (Or.inl (by rw [q]; exact Int32.lt_of_lt_of_le (by decide) ha)))
      obtain ⟨a1, a2⟩ := nmL_ok (bf := bf) (b := b) (ty - (sp + 1)) (ltI bf ty sp - 48) (sp + 1) (show sp + 1 ≤ ty by omega)
      exact ⟨⟨Nat.le_succ_of_le a2, fun _ => a2⟩, fun _ => ⟨hw, a1⟩⟩
  · rw [if_neg hw]
    exact ⟨h, fun q => absurd q hw⟩
theorem wtR_ok {ty sp : Nat} {wr : Int32} {c : Bool} (hb : ty ≤ 60) (h : spOK ty sp wr) (hc : c = true → sp < ty) : spOK ty (wtR c sp wr).1 (wtR c sp wr).2 ∧ ((wtR c sp wr).2 = -1 → wr = -1 ∧ sp + 1 ≤ (wtR c sp wr).1 ∧ c = true) := by
  unfold wtR
  by_cases hw : wr = -1
  · rw [if_pos hw]
    have hs := h.2 hw
    cases c with
    | true => exact ⟨⟨by show sp + 1 ≤ ty + 1; omega, fun _ => hc rfl⟩, fun _ => ⟨hw, Nat.le_refl _, rfl⟩⟩
    | false =>
      have hn : ¬ nI sp = -1 := nI_ne_m1 (by omega)
      exact ⟨⟨by show sp + 1 ≤ ty + 1; omega, fun q => absurd q hn⟩, fun q => absurd q hn⟩
  · rw [if_neg hw]
    exact ⟨h, fun q => absurd q hw⟩
theorem n_letter (M : gMo) (h60 : mTy M ≤ 60) (hsp : mSpt M ≤ 61)  : gM K_Mo_letter { frames := 0, locals := 0, cells := 0, slots := 0 } [.ref 0] (cMo M) (gD (.inl (some (.int (ltI (mBf M) (mTy M) (mSpt M))))) (cMo M)) := by
  refine gM_of rfl rfl (Nat.le_of_ble_eq_true rfl) (fun sc => ?_)
  refine gW_b D_Mo_letter 0 4 (pc' := 8) (l' := [(0, .ref 0)]) (st' := [.int (nI (mTy M)), .int (nI (mSpt M))]) (h' := cMo M) (P := True) rfl trivial ?_
  refine gW_ic_ge (gdec_at D_Mo_letter 4 rfl) (tgt := 23) rfl (fun c => ?_) (fun c => ?_)
  · have c := (gle (rfl : nI (mTy M) = nI (mTy M)) (rfl : nI (mSpt M) = nI (mSpt M)) (by omega) (by omega)).mp c
    refine gW_b D_Mo_letter 11 1 (pc' := 24) (l' := [(0, .ref 0)]) (st' := [.int (-1)]) (h' := cMo M) (P := True) rfl trivial ?_
    rw [show ltI (mBf M) (mTy M) (mSpt M) = -1 from if_pos c]
    exact gW_iret (gdec_at D_Mo_letter 12 rfl) rfl rfl (Nat.le_of_ble_eq_true rfl) ⟨rfl, rfl⟩ (Nat.le_of_ble_eq_true rfl) (Nat.le_of_ble_eq_true rfl)
  · have c := mt (gle (rfl : nI (mTy M) = nI (mTy M)) (rfl : nI (mSpt M) = nI (mSpt M)) (by omega) (by omega)).mpr c
    refine gW_b D_Mo_letter 5 6 (pc' := 24) (l' := [(0, .ref 0)]) (st' := [.int ((mBf M) ((nI (mSpt M)).toNatClampNeg))]) (h' := cMo M) (P := vp_in (nI (mSpt M)) 60 ∧ True) rfl ⟨(gvin (rfl : nI (mSpt M) = nI (mSpt M)) (by omega) (by omega)), trivial⟩ ?_
    rw [show (nI (mSpt M)).toNatClampNeg = (mSpt M) from gclp (rfl : nI (mSpt M) = nI (mSpt M)) (by omega)]
    rw [show ltI (mBf M) (mTy M) (mSpt M) = mBf M (mSpt M) from if_neg c]
    exact gW_iret (gdec_at D_Mo_letter 12 rfl) rfl rfl (Nat.le_of_ble_eq_true rfl) ⟨rfl, rfl⟩ (Nat.le_of_ble_eq_true rfl) (Nat.le_of_ble_eq_true rfl)
theorem n_wants0 (M : gMo) (c : Bool) (hsp : mSpt M ≤ 61) : gM K_Mo_wants { frames := 0, locals := 0, cells := 0, slots := 0 } [.ref 0, .int (bI c)] (cMo M) (gD (.inl none) (cMo (wWr (wSpt M ((wtR c (mSpt M) (mWr M)).1)) ((wtR c (mSpt M) (mWr M)).2)))) := by
  refine gM_of rfl rfl (Nat.le_of_ble_eq_true rfl) (fun sc => ?_)
  refine gW_b D_Mo_wants 0 3 (pc' := 5) (l' := [(0, .ref 0), (1, .int (bI c))]) (st' := [.int (-1), .int (mWr M)]) (h' := cMo M) (P := True) rfl trivial ?_
  refine gW_ic_ne (gdec_at D_Mo_wants 3 rfl) (tgt := 34) rfl (fun d => ?_) (fun d => ?_)
  · skip
    rw [show wtR c (mSpt M) (mWr M) = (mSpt M, mWr M) from if_neg d]
    exact gW_vret (gdec_at D_Mo_wants 18 rfl) rfl (Nat.le_of_ble_eq_true rfl) ⟨rfl, rfl⟩ (Nat.le_of_ble_eq_true rfl) (Nat.le_of_ble_eq_true rfl)
  · skip
    rw [show wtR c (mSpt M) (mWr M) = (mSpt M + 1, if c = true then -1 else nI (mSpt M)) from if_pos d]
    cases c with
    | false =>
      show gW K_Mo_wants sc { frames := 0, locals := 0, cells := 0, slots := 0 } _ _ 0 0 8 [(0, .ref 0), (1, .int 0)] [] (cMo M)
      refine gW_b D_Mo_wants 4 2 (pc' := 10) (l' := [(0, .ref 0), (1, .int 0)]) (st' := [.int 0, .ref 0]) (h' := cMo M) (P := True) rfl trivial ?_
      refine gW_if_eq (gdec_at D_Mo_wants 6 rfl) (tgt := 17) rfl (fun _ => ?_) (fun cq => absurd (by decide) cq)
      refine gW_b D_Mo_wants 9 9 (pc' := 34) (l' := [(0, .ref 0), (1, .int 0)]) (st' := []) (h' := [cO 6 [.int (mTh M), .ref 1, .ref 2, .int (nI (mN M)), .ref 3, .ref 4, .int (nI (mTy M)), .ref 5, .int (nI (mSt M)), .ref 6, .int (nI (mPm M)), .int ((nI (mSpt M)) + 1), .int (nI (mSpt M)), .long (mHs M)], cI 103 (zD (mD M)), cI 618 (svF (mDs M)), cI 103 (zD (mSp M)), cI 60 (mBf M), cI 10 (oF (mOd M)), cI 39 (mPa M)]) (P := True) rfl trivial ?_
      rw [show ((nI (mSpt M)) + 1 : Int32) = nI ((mSpt M) + 1) from (gadd (rfl : nI (mSpt M) = nI (mSpt M)) (gk 1))]
      exact gW_vret (gdec_at D_Mo_wants 18 rfl) rfl (Nat.le_of_ble_eq_true rfl) ⟨rfl, rfl⟩ (Nat.le_of_ble_eq_true rfl) (Nat.le_of_ble_eq_true rfl)
    | true =>
      show gW K_Mo_wants sc { frames := 0, locals := 0, cells := 0, slots := 0 } _ _ 0 0 8 [(0, .ref 0), (1, .int 1)] [] (cMo M)
      refine gW_b D_Mo_wants 4 2 (pc' := 10) (l' := [(0, .ref 0), (1, .int 1)]) (st' := [.int 1, .ref 0]) (h' := cMo M) (P := True) rfl trivial ?_
      refine gW_if_eq (gdec_at D_Mo_wants 6 rfl) (tgt := 17) rfl (fun cq => absurd cq (by decide)) (fun _ => ?_)
      refine gW_b D_Mo_wants 7 2 (pc' := 21) (l' := [(0, .ref 0), (1, .int 1)]) (st' := [.int (-1), .ref 0]) (h' := cMo M) (P := True) rfl trivial ?_
      refine gW_b D_Mo_wants 11 7 (pc' := 34) (l' := [(0, .ref 0), (1, .int 1)]) (st' := []) (h' := [cO 6 [.int (mTh M), .ref 1, .ref 2, .int (nI (mN M)), .ref 3, .ref 4, .int (nI (mTy M)), .ref 5, .int (nI (mSt M)), .ref 6, .int (nI (mPm M)), .int ((nI (mSpt M)) + 1), .int (-1), .long (mHs M)], cI 103 (zD (mD M)), cI 618 (svF (mDs M)), cI 103 (zD (mSp M)), cI 60 (mBf M), cI 10 (oF (mOd M)), cI 39 (mPa M)]) (P := True) rfl trivial ?_
      rw [show ((nI (mSpt M)) + 1 : Int32) = nI ((mSpt M) + 1) from (gadd (rfl : nI (mSpt M) = nI (mSpt M)) (gk 1))]
      exact gW_vret (gdec_at D_Mo_wants 18 rfl) rfl (Nat.le_of_ble_eq_true rfl) ⟨rfl, rfl⟩ (Nat.le_of_ble_eq_true rfl) (Nat.le_of_ble_eq_true rfl)
theorem k_number (M : gMo) (a b : Int32) (h60 : mTy M ≤ 60) {sc : Nat × (Nat → Int32)} {n0 : Nat} (hn0 : n0 ≤ 7) : ∀ (n : Nat) (v : Int32) (sp : Nat), sp ≤ mTy M → mTy M - sp = n → gW K_Mo_number sc { frames := 1, locals := 22, cells := 0, slots := 0 } n0 (gD (.inl (some (.int (nmL (mBf M) (mTy M) b n v sp).1))) (cMo (wWr (wSpt M (nmL (mBf M) (mTy M) b n v sp).2) (-1)))) 0 0 28 [(0, .ref 0), (1, .int a), (2, .int b), (3, .int v), (4, .int (ltI (mBf M) (mTy M) sp - 48))] [] (cMo (wWr (wSpt M sp) (-1))) := by
  intro n
  induction n with
  | zero =>
    intro v sp hs hn
    have hl : ltI (mBf M) (mTy M) sp = -1 := if_pos (by omega)
    refine gW_b D_Mo_number 16 3 (pc' := 33) (l' := [(0, .ref 0), (1, .int a), (2, .int b), (3, .int v), (4, .int (ltI (mBf M) (mTy M) sp - 48))]) (st' := [.int (-1), .int (-1)]) (h' := cMo (wWr (wSpt M sp) (-1))) (P := True) rfl trivial ?_
    refine gW_ic_ne (gdec_at D_Mo_number 19 rfl) (tgt := 92) rfl (fun cq => absurd (by decide) cq) (fun _ => ?_)
    refine gW_b D_Mo_number 20 1 (pc' := 37) (l' := [(0, .ref 0), (1, .int a), (2, .int b), (3, .int v), (4, .int (ltI (mBf M) (mTy M) sp - 48))]) (st' := [.int v]) (h' := cMo (wWr (wSpt M sp) (-1))) (P := True) rfl trivial ?_
    refine gW_if_le (gdec_at D_Mo_number 21 rfl) (tgt := 92) rfl (fun c => ?_) (fun c => ?_)
    · skip
      refine gW_b D_Mo_number 52 1 (pc' := 93) (l' := [(0, .ref 0), (1, .int a), (2, .int b), (3, .int v), (4, .int (ltI (mBf M) (mTy M) sp - 48))]) (st' := [.int v]) (h' := cMo (wWr (wSpt M sp) (-1))) (P := True) rfl trivial ?_
      exact gW_iret (gdec_at D_Mo_number 53 rfl) rfl rfl hn0 ⟨rfl, rfl⟩ (Nat.le_of_ble_eq_true rfl) (Nat.le_of_ble_eq_true rfl)
    · skip
      refine gW_b D_Mo_number 22 3 (pc' := 45) (l' := [(0, .ref 0), (1, .int a), (2, .int b), (3, .int v), (4, .int (ltI (mBf M) (mTy M) sp - 48))]) (st' := [.int 9, .int 0, .int (ltI (mBf M) (mTy M) sp - 48)]) (h' := cMo (wWr (wSpt M sp) (-1))) (P := True) rfl trivial ?_
      refine gW_callS (n_in_f (ltI (mBf M) (mTy M) sp - 48) 0 9 (Or.inl (by rw [hl]; decide))) lk_Mo_32 [] (gdec_at D_Mo_number 25 rfl) (st := []) rfl rfl ⟨rfl, rfl⟩ (Nat.le_of_ble_eq_true rfl) (Nat.le_of_ble_eq_true rfl) ⟨Nat.le_of_ble_eq_true rfl, Nat.le_of_ble_eq_true rfl⟩ ⟨Nat.le_of_ble_eq_true rfl, Nat.le_of_ble_eq_true rfl⟩ (gAft_r rfl rfl (h' := cMo (wWr (wSpt M sp) (-1))) (st' := [.int 0]) (pc' := 48) (cs' := 0) (ss' := 0) rfl rfl rfl rfl rfl ?_)
      refine gW_if_eq (gdec_at D_Mo_number 26 rfl) (tgt := 92) rfl (fun _ => ?_) (fun cq => absurd (by decide) cq)
      refine gW_b D_Mo_number 52 1 (pc' := 93) (l' := [(0, .ref 0), (1, .int a), (2, .int b), (3, .int v), (4, .int (ltI (mBf M) (mTy M) sp - 48))]) (st' := [.int v]) (h' := cMo (wWr (wSpt M sp) (-1))) (P := True) rfl trivial ?_
      exact gW_iret (gdec_at D_Mo_number 53 rfl) rfl rfl hn0 ⟨rfl, rfl⟩ (Nat.le_of_ble_eq_true rfl) (Nat.le_of_ble_eq_true rfl)
  | succ n ih =>
    intro v sp hs hn
    refine gW_b D_Mo_number 16 3 (pc' := 33) (l' := [(0, .ref 0), (1, .int a), (2, .int b), (3, .int v), (4, .int (ltI (mBf M) (mTy M) sp - 48))]) (st' := [.int (-1), .int (-1)]) (h' := cMo (wWr (wSpt M sp) (-1))) (P := True) rfl trivial ?_
    refine gW_ic_ne (gdec_at D_Mo_number 19 rfl) (tgt := 92) rfl (fun cq => absurd (by decide) cq) (fun _ => ?_)
    refine gW_b D_Mo_number 20 1 (pc' := 37) (l' := [(0, .ref 0), (1, .int a), (2, .int b), (3, .int v), (4, .int (ltI (mBf M) (mTy M) sp - 48))]) (st' := [.int v]) (h' := cMo (wWr (wSpt M sp) (-1))) (P := True) rfl trivial ?_
    refine gW_if_le (gdec_at D_Mo_number 21 rfl) (tgt := 92) rfl (fun c => ?_) (fun c => ?_)
    · skip
      refine gW_b D_Mo_number 52 1 (pc' := 93) (l' := [(0, .ref 0), (1, .int a), (2, .int b), (3, .int v), (4, .int (ltI (mBf M) (mTy M) sp - 48))]) (st' := [.int v]) (h' := cMo (wWr (wSpt M sp) (-1))) (P := True) rfl trivial ?_
      rw [show nmL (mBf M) (mTy M) b (n + 1) v sp = (v, sp) from if_pos c]
      exact gW_iret (gdec_at D_Mo_number 53 rfl) rfl rfl hn0 ⟨rfl, rfl⟩ (Nat.le_of_ble_eq_true rfl) (Nat.le_of_ble_eq_true rfl)
    · skip
      refine gW_b D_Mo_number 22 3 (pc' := 45) (l' := [(0, .ref 0), (1, .int a), (2, .int b), (3, .int v), (4, .int (ltI (mBf M) (mTy M) sp - 48))]) (st' := [.int 9, .int 0, .int (ltI (mBf M) (mTy M) sp - 48)]) (h' := cMo (wWr (wSpt M sp) (-1))) (P := True) rfl trivial ?_
      by_cases d : ltI (mBf M) (mTy M) sp - 48 < 0 ∨ 9 < ltI (mBf M) (mTy M) sp - 48
      · skip
        refine gW_callS (n_in_f (ltI (mBf M) (mTy M) sp - 48) 0 9 d) lk_Mo_32 [] (gdec_at D_Mo_number 25 rfl) (st := []) rfl rfl ⟨rfl, rfl⟩ (Nat.le_of_ble_eq_true rfl) (Nat.le_of_ble_eq_true rfl) ⟨Nat.le_of_ble_eq_true rfl, Nat.le_of_ble_eq_true rfl⟩ ⟨Nat.le_of_ble_eq_true rfl, Nat.le_of_ble_eq_true rfl⟩ (gAft_r rfl rfl (h' := cMo (wWr (wSpt M sp) (-1))) (st' := [.int 0]) (pc' := 48) (cs' := 0) (ss' := 0) rfl rfl rfl rfl rfl ?_)
        refine gW_if_eq (gdec_at D_Mo_number 26 rfl) (tgt := 92) rfl (fun _ => ?_) (fun cq => absurd (by decide) cq)
        refine gW_b D_Mo_number 52 1 (pc' := 93) (l' := [(0, .ref 0), (1, .int a), (2, .int b), (3, .int v), (4, .int (ltI (mBf M) (mTy M) sp - 48))]) (st' := [.int v]) (h' := cMo (wWr (wSpt M sp) (-1))) (P := True) rfl trivial ?_
        rw [show nmL (mBf M) (mTy M) b (n + 1) v sp = (v, sp) from (if_neg c).trans (if_pos d)]
        exact gW_iret (gdec_at D_Mo_number 53 rfl) rfl rfl hn0 ⟨rfl, rfl⟩ (Nat.le_of_ble_eq_true rfl) (Nat.le_of_ble_eq_true rfl)
      · skip
        have hl : sp < mTy M := ltI_in (bf := mBf M) (fun q => d (Or.inl (by rw [q]; decide)))
        refine gW_callS (n_in_t (ltI (mBf M) (mTy M) sp - 48) 0 9 (fun q => d (Or.inl q)) (fun q => d (Or.inr q))) lk_Mo_32 [] (gdec_at D_Mo_number 25 rfl) (st := []) rfl rfl ⟨rfl, rfl⟩ (Nat.le_of_ble_eq_true rfl) (Nat.le_of_ble_eq_true rfl) ⟨Nat.le_of_ble_eq_true rfl, Nat.le_of_ble_eq_true rfl⟩ ⟨Nat.le_of_ble_eq_true rfl, Nat.le_of_ble_eq_true rfl⟩ (gAft_r rfl rfl (h' := cMo (wWr (wSpt M sp) (-1))) (st' := [.int 1]) (pc' := 48) (cs' := 0) (ss' := 0) rfl rfl rfl rfl rfl ?_)
        refine gW_if_eq (gdec_at D_Mo_number 26 rfl) (tgt := 92) rfl (fun cq => absurd cq (by decide)) (fun _ => ?_)
        refine gW_b D_Mo_number 27 6 (pc' := 59) (l' := [(0, .ref 0), (1, .int a), (2, .int b), (3, .int v), (4, .int (ltI (mBf M) (mTy M) sp - 48))]) (st' := [.int b, .int ((10 * v) + (ltI (mBf M) (mTy M) sp - 48))]) (h' := cMo (wWr (wSpt M sp) (-1))) (P := True) rfl trivial ?_
        refine gW_ic_gt (gdec_at D_Mo_number 33 rfl) (tgt := 92) rfl (fun e => ?_) (fun e => ?_)
        · skip
          refine gW_b D_Mo_number 52 1 (pc' := 93) (l' := [(0, .ref 0), (1, .int a), (2, .int b), (3, .int v), (4, .int (ltI (mBf M) (mTy M) sp - 48))]) (st' := [.int v]) (h' := cMo (wWr (wSpt M sp) (-1))) (P := True) rfl trivial ?_
          rw [show nmL (mBf M) (mTy M) b (n + 1) v sp = (v, sp) from (if_neg c).trans ((if_neg d).trans (if_pos e))]
          exact gW_iret (gdec_at D_Mo_number 53 rfl) rfl rfl hn0 ⟨rfl, rfl⟩ (Nat.le_of_ble_eq_true rfl) (Nat.le_of_ble_eq_true rfl)
        · skip
          refine gW_b D_Mo_number 34 12 (pc' := 80) (l' := [(0, .ref 0), (1, .int a), (2, .int b), (3, .int ((10 * v) + (ltI (mBf M) (mTy M) sp - 48))), (4, .int (ltI (mBf M) (mTy M) sp - 48))]) (st' := []) (h' := [cO 6 [.int (mTh M), .ref 1, .ref 2, .int (nI (mN M)), .ref 3, .ref 4, .int (nI (mTy M)), .ref 5, .int (nI (mSt M)), .ref 6, .int (nI (mPm M)), .int ((nI sp) + 1), .int (-1), .long (mHs M)], cI 103 (zD (mD M)), cI 618 (svF (mDs M)), cI 103 (zD (mSp M)), cI 60 (mBf M), cI 10 (oF (mOd M)), cI 39 (mPa M)]) (P := True) rfl trivial ?_
          rw [show ((nI sp) + 1 : Int32) = nI (sp + 1) from (gadd (rfl : nI sp = nI sp) (gk 1))]
          refine gW_b D_Mo_number 46 1 (pc' := 81) (l' := [(0, .ref 0), (1, .int a), (2, .int b), (3, .int ((10 * v) + (ltI (mBf M) (mTy M) sp - 48))), (4, .int (ltI (mBf M) (mTy M) sp - 48))]) (st' := [.ref 0]) (h' := cMo (wWr (wSpt M (sp + 1)) (-1))) (P := True) rfl trivial ?_
          refine gW_callV (n_letter (wWr (wSpt M (sp + 1)) (-1)) h60 (show sp + 1 ≤ 61 by omega)) lk_Mo_138 [0, 1, 2, 3, 4, 5, 6] (gdec_at D_Mo_number 47 rfl) (st := []) rfl rfl ⟨rfl, rfl⟩ (Nat.le_of_ble_eq_true rfl) rfl (by decide) rfl (Nat.le_of_ble_eq_true rfl) ⟨Nat.le_of_ble_eq_true rfl, Nat.le_of_ble_eq_true rfl⟩ ⟨Nat.le_of_ble_eq_true rfl, Nat.le_of_ble_eq_true rfl⟩ (gAft_r rfl rfl (h' := cMo (wWr (wSpt M (sp + 1)) (-1))) (st' := [.int (ltI (mBf M) (mTy M) (sp + 1))]) (pc' := 84) (cs' := 0) (ss' := 0) rfl rfl rfl rfl rfl ?_)
          refine gW_b D_Mo_number 48 4 (pc' := 28) (l' := [(0, .ref 0), (1, .int a), (2, .int b), (3, .int ((10 * v) + (ltI (mBf M) (mTy M) sp - 48))), (4, .int ((ltI (mBf M) (mTy M) (sp + 1)) - 48))]) (st' := []) (h' := cMo (wWr (wSpt M (sp + 1)) (-1))) (P := True) rfl trivial ?_
          rw [show nmL (mBf M) (mTy M) b (n + 1) v sp = nmL (mBf M) (mTy M) b n (10 * v + (ltI (mBf M) (mTy M) sp - 48)) (sp + 1) from (if_neg c).trans ((if_neg d).trans (if_neg (Int32.not_lt.mpr (Int32.not_lt.mp e))))]
          exact ih _ (sp + 1) (by omega) (by omega)
theorem n_number (M : gMo) (a b : Int32) (ha : 0 ≤ a) (h60 : mTy M ≤ 60) (hok : spOK (mTy M) (mSpt M) (mWr M)) : gM K_Mo_number { frames := 1, locals := 22, cells := 0, slots := 0 } [.ref 0, .int a, .int b] (cMo M) (gD (.inl (some (.int ((nmR (mBf M) (mTy M) a b (mSpt M) (mWr M)).1)))) (cMo (wWr (wSpt M ((nmR (mBf M) (mTy M) a b (mSpt M) (mWr M)).2.1)) ((nmR (mBf M) (mTy M) a b (mSpt M) (mWr M)).2.2)))) := by
  refine gM_of rfl rfl (Nat.le_of_ble_eq_true rfl) (fun sc => ?_)
  have hsp : mSpt M ≤ 61 := by have := hok.1; omega
  refine gW_b D_Mo_number 0 1 (pc' := 1) (l' := [(0, .ref 0), (1, .int a), (2, .int b)]) (st' := [.ref 0]) (h' := cMo M) (P := True) rfl trivial ?_
  refine gW_callV (n_letter M h60 hsp) lk_Mo_138 [0, 1, 2, 3, 4, 5, 6] (gdec_at D_Mo_number 1 rfl) (st := []) rfl rfl ⟨rfl, rfl⟩ (Nat.le_of_ble_eq_true rfl) rfl (by decide) rfl (Nat.le_of_ble_eq_true rfl) ⟨Nat.le_of_ble_eq_true rfl, Nat.le_of_ble_eq_true rfl⟩ ⟨Nat.le_of_ble_eq_true rfl, Nat.le_of_ble_eq_true rfl⟩ (gAft_r rfl rfl (h' := cMo M) (st' := [.int (ltI (mBf M) (mTy M) (mSpt M))]) (pc' := 4) (cs' := 0) (ss' := 0) rfl rfl rfl rfl rfl ?_)
  refine gW_b D_Mo_number 2 7 (pc' := 13) (l' := [(0, .ref 0), (1, .int a), (2, .int b), (3, .int ((ltI (mBf M) (mTy M) (mSpt M)) - 48))]) (st' := [.int 9, .int a, .int ((ltI (mBf M) (mTy M) (mSpt M)) - 48), .ref 0]) (h' := cMo M) (P := True) rfl trivial ?_
  by_cases d : ltI (mBf M) (mTy M) (mSpt M) - 48 < a ∨ 9 < ltI (mBf M) (mTy M) (mSpt M) - 48
  · skip
    refine gW_callS (n_in_f ((ltI (mBf M) (mTy M) (mSpt M)) - 48) a 9 d) lk_Mo_32 [] (gdec_at D_Mo_number 9 rfl) (st := [.ref 0]) rfl rfl ⟨rfl, rfl⟩ (Nat.le_of_ble_eq_true rfl) (Nat.le_of_ble_eq_true rfl) ⟨Nat.le_of_ble_eq_true rfl, Nat.le_of_ble_eq_true rfl⟩ ⟨Nat.le_of_ble_eq_true rfl, Nat.le_of_ble_eq_true rfl⟩ (gAft_r rfl rfl (h' := cMo M) (st' := [.int 0, .ref 0]) (pc' := 16) (cs' := 0) (ss' := 0) rfl rfl rfl rfl rfl ?_)
    refine gW_callV (n_wants0 M false (by omega)) lk_Mo_141 [0, 1, 2, 3, 4, 5, 6] (gdec_at D_Mo_number 10 rfl) (st := []) rfl rfl ⟨rfl, rfl⟩ (Nat.le_of_ble_eq_true rfl) rfl (by decide) rfl (Nat.le_of_ble_eq_true rfl) ⟨Nat.le_of_ble_eq_true rfl, Nat.le_of_ble_eq_true rfl⟩ ⟨Nat.le_of_ble_eq_true rfl, Nat.le_of_ble_eq_true rfl⟩ (gAft_r rfl rfl (h' := cMo (wWr (wSpt M ((wtR false (mSpt M) (mWr M)).1)) ((wtR false (mSpt M) (mWr M)).2))) (st' := []) (pc' := 19) (cs' := 0) (ss' := 0) rfl rfl rfl rfl rfl ?_)
    by_cases hw : mWr M = -1
    · skip
      have hs := hok.2 hw
      rw [show wtR false (mSpt M) (mWr M) = (mSpt M + 1, nI (mSpt M)) from if_pos hw, show nmR (mBf M) (mTy M) a b (mSpt M) (mWr M) = (ltI (mBf M) (mTy M) (mSpt M) - 48, mSpt M + 1, nI (mSpt M)) from (if_pos hw).trans (if_pos d)]
      show gW K_Mo_number sc { frames := 1, locals := 22, cells := 0, slots := 0 } _ _ 0 0 19 [(0, .ref 0), (1, .int a), (2, .int b), (3, .int ((ltI (mBf M) (mTy M) (mSpt M)) - 48))] [] (cMo (wWr (wSpt M (mSpt M + 1)) (nI (mSpt M))))
      refine gW_b D_Mo_number 11 1 (pc' := 20) (l' := [(0, .ref 0), (1, .int a), (2, .int b), (3, .int ((ltI (mBf M) (mTy M) (mSpt M)) - 48))]) (st' := [.ref 0]) (h' := cMo (wWr (wSpt M (mSpt M + 1)) (nI (mSpt M)))) (P := True) rfl trivial ?_
      refine gW_callV (n_letter (wWr (wSpt M (mSpt M + 1)) (nI (mSpt M))) h60 (show mSpt M + 1 ≤ 61 by omega)) lk_Mo_138 [0, 1, 2, 3, 4, 5, 6] (gdec_at D_Mo_number 12 rfl) (st := []) rfl rfl ⟨rfl, rfl⟩ (Nat.le_of_ble_eq_true rfl) rfl (by decide) rfl (Nat.le_of_ble_eq_true rfl) ⟨Nat.le_of_ble_eq_true rfl, Nat.le_of_ble_eq_true rfl⟩ ⟨Nat.le_of_ble_eq_true rfl, Nat.le_of_ble_eq_true rfl⟩ (gAft_r rfl rfl (h' := cMo (wWr (wSpt M (mSpt M + 1)) (nI (mSpt M)))) (st' := [.int (ltI (mBf M) (mTy M) (mSpt M + 1))]) (pc' := 23) (cs' := 0) (ss' := 0) rfl rfl rfl rfl rfl ?_)
      refine gW_b D_Mo_number 13 6 (pc' := 33) (l' := [(0, .ref 0), (1, .int a), (2, .int b), (3, .int ((ltI (mBf M) (mTy M) (mSpt M)) - 48)), (4, .int ((ltI (mBf M) (mTy M) (mSpt M + 1)) - 48))]) (st' := [.int (-1), .int (nI (mSpt M))]) (h' := cMo (wWr (wSpt M (mSpt M + 1)) (nI (mSpt M)))) (P := True) rfl trivial ?_
      refine gW_ic_ne (gdec_at D_Mo_number 19 rfl) (tgt := 92) rfl (fun _ => ?_) (fun cq => absurd cq (nI_ne_m1 (by omega)))
      refine gW_b D_Mo_number 52 1 (pc' := 93) (l' := [(0, .ref 0), (1, .int a), (2, .int b), (3, .int ((ltI (mBf M) (mTy M) (mSpt M)) - 48)), (4, .int ((ltI (mBf M) (mTy M) (mSpt M + 1)) - 48))]) (st' := [.int ((ltI (mBf M) (mTy M) (mSpt M)) - 48)]) (h' := cMo (wWr (wSpt M (mSpt M + 1)) (nI (mSpt M)))) (P := True) rfl trivial ?_
      exact gW_iret (gdec_at D_Mo_number 53 rfl) rfl rfl (Nat.le_of_ble_eq_true rfl) ⟨rfl, rfl⟩ (Nat.le_of_ble_eq_true rfl) (Nat.le_of_ble_eq_true rfl)
    · skip
      rw [show wtR false (mSpt M) (mWr M) = (mSpt M, mWr M) from if_neg hw, show nmR (mBf M) (mTy M) a b (mSpt M) (mWr M) = (ltI (mBf M) (mTy M) (mSpt M) - 48, mSpt M, mWr M) from if_neg hw]
      show gW K_Mo_number sc { frames := 1, locals := 22, cells := 0, slots := 0 } _ _ 0 0 19 [(0, .ref 0), (1, .int a), (2, .int b), (3, .int ((ltI (mBf M) (mTy M) (mSpt M)) - 48))] [] (cMo M)
      refine gW_b D_Mo_number 11 1 (pc' := 20) (l' := [(0, .ref 0), (1, .int a), (2, .int b), (3, .int ((ltI (mBf M) (mTy M) (mSpt M)) - 48))]) (st' := [.ref 0]) (h' := cMo M) (P := True) rfl trivial ?_
      refine gW_callV (n_letter M h60 hsp) lk_Mo_138 [0, 1, 2, 3, 4, 5, 6] (gdec_at D_Mo_number 12 rfl) (st := []) rfl rfl ⟨rfl, rfl⟩ (Nat.le_of_ble_eq_true rfl) rfl (by decide) rfl (Nat.le_of_ble_eq_true rfl) ⟨Nat.le_of_ble_eq_true rfl, Nat.le_of_ble_eq_true rfl⟩ ⟨Nat.le_of_ble_eq_true rfl, Nat.le_of_ble_eq_true rfl⟩ (gAft_r rfl rfl (h' := cMo M) (st' := [.int (ltI (mBf M) (mTy M) (mSpt M))]) (pc' := 23) (cs' := 0) (ss' := 0) rfl rfl rfl rfl rfl ?_)
      refine gW_b D_Mo_number 13 6 (pc' := 33) (l' := [(0, .ref 0), (1, .int a), (2, .int b), (3, .int ((ltI (mBf M) (mTy M) (mSpt M)) - 48)), (4, .int ((ltI (mBf M) (mTy M) (mSpt M)) - 48))]) (st' := [.int (-1), .int (mWr M)]) (h' := cMo M) (P := True) rfl trivial ?_
      refine gW_ic_ne (gdec_at D_Mo_number 19 rfl) (tgt := 92) rfl (fun _ => ?_) (fun cq => absurd cq hw)
      refine gW_b D_Mo_number 52 1 (pc' := 93) (l' := [(0, .ref 0), (1, .int a), (2, .int b), (3, .int ((ltI (mBf M) (mTy M) (mSpt M)) - 48)), (4, .int ((ltI (mBf M) (mTy M) (mSpt M)) - 48))]) (st' := [.int ((ltI (mBf M) (mTy M) (mSpt M)) - 48)]) (h' := cMo M) (P := True) rfl trivial ?_
      exact gW_iret (gdec_at D_Mo_number 53 rfl) rfl rfl (Nat.le_of_ble_eq_true rfl) ⟨rfl, rfl⟩ (Nat.le_of_ble_eq_true rfl) (Nat.le_of_ble_eq_true rfl)
  · skip
    refine gW_callS (n_in_t ((ltI (mBf M) (mTy M) (mSpt M)) - 48) a 9 (fun q => d (Or.inl q)) (fun q => d (Or.inr q))) lk_Mo_32 [] (gdec_at D_Mo_number 9 rfl) (st := [.ref 0]) rfl rfl ⟨rfl, rfl⟩ (Nat.le_of_ble_eq_true rfl) (Nat.le_of_ble_eq_true rfl) ⟨Nat.le_of_ble_eq_true rfl, Nat.le_of_ble_eq_true rfl⟩ ⟨Nat.le_of_ble_eq_true rfl, Nat.le_of_ble_eq_true rfl⟩ (gAft_r rfl rfl (h' := cMo M) (st' := [.int 1, .ref 0]) (pc' := 16) (cs' := 0) (ss' := 0) rfl rfl rfl rfl rfl ?_)
    refine gW_callV (n_wants0 M true (by omega)) lk_Mo_141 [0, 1, 2, 3, 4, 5, 6] (gdec_at D_Mo_number 10 rfl) (st := []) rfl rfl ⟨rfl, rfl⟩ (Nat.le_of_ble_eq_true rfl) rfl (by decide) rfl (Nat.le_of_ble_eq_true rfl) ⟨Nat.le_of_ble_eq_true rfl, Nat.le_of_ble_eq_true rfl⟩ ⟨Nat.le_of_ble_eq_true rfl, Nat.le_of_ble_eq_true rfl⟩ (gAft_r rfl rfl (h' := cMo (wWr (wSpt M ((wtR true (mSpt M) (mWr M)).1)) ((wtR true (mSpt M) (mWr M)).2))) (st' := []) (pc' := 19) (cs' := 0) (ss' := 0) rfl rfl rfl rfl rfl ?_)
    by_cases hw : mWr M = -1
    · skip
      have hl : mSpt M < mTy M := ltI_in (bf := mBf M) (fun q => d (Or.inl (by rw [q]; exact Int32.lt_of_lt_of_le (by decide) ha)))
      rw [show wtR true (mSpt M) (mWr M) = (mSpt M + 1, -1) from if_pos hw, show nmR (mBf M) (mTy M) a b (mSpt M) (mWr M) = ((nmL (mBf M) (mTy M) b (mTy M - (mSpt M + 1)) (ltI (mBf M) (mTy M) (mSpt M) - 48) (mSpt M + 1)).1, (nmL (mBf M) (mTy M) b (mTy M - (mSpt M + 1)) (ltI (mBf M) (mTy M) (mSpt M) - 48) (mSpt M + 1)).2, -1) from (if_pos hw).trans (if_neg d)]
      show gW K_Mo_number sc { frames := 1, locals := 22, cells := 0, slots := 0 } _ _ 0 0 19 [(0, .ref 0), (1, .int a), (2, .int b), (3, .int ((ltI (mBf M) (mTy M) (mSpt M)) - 48))] [] (cMo (wWr (wSpt M (mSpt M + 1)) (-1)))
      refine gW_b D_Mo_number 11 1 (pc' := 20) (l' := [(0, .ref 0), (1, .int a), (2, .int b), (3, .int ((ltI (mBf M) (mTy M) (mSpt M)) - 48))]) (st' := [.ref 0]) (h' := cMo (wWr (wSpt M (mSpt M + 1)) (-1))) (P := True) rfl trivial ?_
      refine gW_callV (n_letter (wWr (wSpt M (mSpt M + 1)) (-1)) h60 (show mSpt M + 1 ≤ 61 by omega)) lk_Mo_138 [0, 1, 2, 3, 4, 5, 6] (gdec_at D_Mo_number 12 rfl) (st := []) rfl rfl ⟨rfl, rfl⟩ (Nat.le_of_ble_eq_true rfl) rfl (by decide) rfl (Nat.le_of_ble_eq_true rfl) ⟨Nat.le_of_ble_eq_true rfl, Nat.le_of_ble_eq_true rfl⟩ ⟨Nat.le_of_ble_eq_true rfl, Nat.le_of_ble_eq_true rfl⟩ (gAft_r rfl rfl (h' := cMo (wWr (wSpt M (mSpt M + 1)) (-1))) (st' := [.int (ltI (mBf M) (mTy M) (mSpt M + 1))]) (pc' := 23) (cs' := 0) (ss' := 0) rfl rfl rfl rfl rfl ?_)
      refine gW_b D_Mo_number 13 3 (pc' := 28) (l' := [(0, .ref 0), (1, .int a), (2, .int b), (3, .int ((ltI (mBf M) (mTy M) (mSpt M)) - 48)), (4, .int ((ltI (mBf M) (mTy M) (mSpt M + 1)) - 48))]) (st' := []) (h' := cMo (wWr (wSpt M (mSpt M + 1)) (-1))) (P := True) rfl trivial ?_
      exact k_number M a b h60 (Nat.le_of_ble_eq_true rfl) _ _ (mSpt M + 1) (by omega) rfl
    · skip
      rw [show wtR true (mSpt M) (mWr M) = (mSpt M, mWr M) from if_neg hw, show nmR (mBf M) (mTy M) a b (mSpt M) (mWr M) = (ltI (mBf M) (mTy M) (mSpt M) - 48, mSpt M, mWr M) from if_neg hw]
      show gW K_Mo_number sc { frames := 1, locals := 22, cells := 0, slots := 0 } _ _ 0 0 19 [(0, .ref 0), (1, .int a), (2, .int b), (3, .int ((ltI (mBf M) (mTy M) (mSpt M)) - 48))] [] (cMo M)
      refine gW_b D_Mo_number 11 1 (pc' := 20) (l' := [(0, .ref 0), (1, .int a), (2, .int b), (3, .int ((ltI (mBf M) (mTy M) (mSpt M)) - 48))]) (st' := [.ref 0]) (h' := cMo M) (P := True) rfl trivial ?_
      refine gW_callV (n_letter M h60 hsp) lk_Mo_138 [0, 1, 2, 3, 4, 5, 6] (gdec_at D_Mo_number 12 rfl) (st := []) rfl rfl ⟨rfl, rfl⟩ (Nat.le_of_ble_eq_true rfl) rfl (by decide) rfl (Nat.le_of_ble_eq_true rfl) ⟨Nat.le_of_ble_eq_true rfl, Nat.le_of_ble_eq_true rfl⟩ ⟨Nat.le_of_ble_eq_true rfl, Nat.le_of_ble_eq_true rfl⟩ (gAft_r rfl rfl (h' := cMo M) (st' := [.int (ltI (mBf M) (mTy M) (mSpt M))]) (pc' := 23) (cs' := 0) (ss' := 0) rfl rfl rfl rfl rfl ?_)
      refine gW_b D_Mo_number 13 6 (pc' := 33) (l' := [(0, .ref 0), (1, .int a), (2, .int b), (3, .int ((ltI (mBf M) (mTy M) (mSpt M)) - 48)), (4, .int ((ltI (mBf M) (mTy M) (mSpt M)) - 48))]) (st' := [.int (-1), .int (mWr M)]) (h' := cMo M) (P := True) rfl trivial ?_
      refine gW_ic_ne (gdec_at D_Mo_number 19 rfl) (tgt := 92) rfl (fun _ => ?_) (fun cq => absurd cq hw)
      refine gW_b D_Mo_number 52 1 (pc' := 93) (l' := [(0, .ref 0), (1, .int a), (2, .int b), (3, .int ((ltI (mBf M) (mTy M) (mSpt M)) - 48)), (4, .int ((ltI (mBf M) (mTy M) (mSpt M)) - 48))]) (st' := [.int ((ltI (mBf M) (mTy M) (mSpt M)) - 48)]) (h' := cMo M) (P := True) rfl trivial ?_
      exact gW_iret (gdec_at D_Mo_number 53 rfl) rfl rfl (Nat.le_of_ble_eq_true rfl) ⟨rfl, rfl⟩ (Nat.le_of_ble_eq_true rfl) (Nat.le_of_ble_eq_true rfl)
/-- a part is read: what was taken, where it ends, what was wrong -/
abbrev gTx1 : Type := Nat × Int32
def rpA (bf : Nat → Int32) (ty sp : Nat) : Int32 × Nat × Int32 := nmR bf ty 1 500 sp (-1)
def rpB (bf : Nat → Int32) (ty sp : Nat) : Int32 := ltI bf ty (rpA bf ty sp).2.1 - 97
def isTn (x : Int32) : Bool := decide (¬ (x < 0 ∨ 4 ≤ x))
def qC (bf : Nat → Int32) (ty : Nat) (r : Int32 × Nat × Int32) : Nat × Int32 := wtR (isTn (ltI bf ty r.2.1 - 97)) r.2.1 r.2.2
def qD (bf : Nat → Int32) (ty : Nat) (r : Nat × Int32) : Nat × Int32 := wtR (decide (ltI bf ty r.1 = 64)) r.1 r.2
def qE (bf : Nat → Int32) (ty : Nat) (r : Nat × Int32) : Int32 × Nat × Int32 := nmR bf ty 0 999 r.1 r.2
def rpC (bf : Nat → Int32) (ty sp : Nat) : Nat × Int32 := qC bf ty (rpA bf ty sp)
def rpD (bf : Nat → Int32) (ty sp : Nat) : Nat × Int32 := qD bf ty (rpC bf ty sp)
def rpE (bf : Nat → Int32) (ty sp : Nat) : Int32 × Nat × Int32 := qE bf ty (rpD bf ty sp)
def rpF (bf : Nat → Int32) (ty sp pm : Nat) (pa : Nat → Int32) : Nat → Int32 := upd (upd (upd pa (3 * pm) (rpA bf ty sp).1) (3 * pm + 1) (rpB bf ty sp)) (3 * pm + 2) (rpE bf ty sp).1
theorem isTn_lt {bf : Nat → Int32} {ty sp : Nat} (h : isTn (ltI bf ty sp - 97) = true) : sp < ty := ltI_in (bf := bf) (fun q => by
  rw [q] at h
  exact absurd h (by decide))
theorem ltE_lt {bf : Nat → Int32} {ty sp : Nat} {x : Int32} (hx : ¬ x = -1) (h : decide (ltI bf ty sp = x) = true) : sp < ty := ltI_in (bf := bf) (fun q => hx (by rw [← of_decide_eq_true h, q]))
theorem rpA_ok {bf : Nat → Int32} {ty sp : Nat} (hb : ty ≤ 60) (h : sp ≤ ty) : spOK ty (rpA bf ty sp).2.1 (rpA bf ty sp).2.2 ∧ ((rpA bf ty sp).2.2 = -1 → sp + 1 ≤ (rpA bf ty sp).2.1) := by
  unfold rpA
  have a := nmR_ok (bf := bf) (ty := ty) (sp := sp) (a := 1) (b := 500) (wr := -1) (by decide) hb ⟨by omega, fun _ => h⟩
  exact ⟨a.1, fun q => (a.2 q).2⟩
theorem rpC_ok {bf : Nat → Int32} {ty sp : Nat} (hb : ty ≤ 60) (h : sp ≤ ty) : spOK ty (rpC bf ty sp).1 (rpC bf ty sp).2 ∧ ((rpC bf ty sp).2 = -1 → sp + 2 ≤ (rpC bf ty sp).1) := by
  obtain ⟨a1, a2⟩ := rpA_ok (bf := bf) hb h
  unfold rpC qC
  generalize rpA bf ty sp = r at a1 a2 ⊢
  obtain ⟨x1, x2⟩ := wtR_ok (c := isTn (ltI bf ty r.2.1 - 97)) hb a1 (fun q => isTn_lt q)
  exact ⟨x1, fun q => by
    have y1 := a2 (x2 q).1
    have y2 := (x2 q).2.1
    omega⟩
theorem rpD_ok {bf : Nat → Int32} {ty sp : Nat} (hb : ty ≤ 60) (h : sp ≤ ty) : spOK ty (rpD bf ty sp).1 (rpD bf ty sp).2 ∧ ((rpD bf ty sp).2 = -1 → sp + 3 ≤ (rpD bf ty sp).1) := by
  obtain ⟨a1, a2⟩ := rpC_ok (bf := bf) hb h
  unfold rpD qD
  generalize rpC bf ty sp = r at a1 a2 ⊢
  obtain ⟨x1, x2⟩ := wtR_ok (c := decide (ltI bf ty r.1 = 64)) hb a1 (fun q => ltE_lt (bf := bf) (by decide) q)
  exact ⟨x1, fun q => by
    have y1 := a2 (x2 q).1
    have y2 := (x2 q).2.1
    omega⟩
theorem rpE_ok {bf : Nat → Int32} {ty sp : Nat} (hb : ty ≤ 60) (h : sp ≤ ty) : spOK ty (rpE bf ty sp).2.1 (rpE bf ty sp).2.2 ∧ ((rpE bf ty sp).2.2 = -1 → sp + 4 ≤ (rpE bf ty sp).2.1) := by
  obtain ⟨a1, a2⟩ := rpD_ok (bf := bf) hb h
  unfold rpE qE
  generalize rpD bf ty sp = r at a1 a2 ⊢
  obtain ⟨x1, x2⟩ := nmR_ok (bf := bf) (a := 0) (b := 999) (by decide) hb a1
  exact ⟨x1, fun q => by
    have y1 := a2 (x2 q).1
    have y2 := (x2 q).2
    omega⟩
theorem rp_ok {bf : Nat → Int32} {ty sp : Nat} (hb : ty ≤ 60) (h : sp ≤ ty) : spOK ty (rpA bf ty sp).2.1 (rpA bf ty sp).2.2 ∧ spOK ty (rpC bf ty sp).1 (rpC bf ty sp).2 ∧ spOK ty (rpD bf ty sp).1 (rpD bf ty sp).2 ∧ spOK ty (rpE bf ty sp).2.1 (rpE bf ty sp).2.2 ∧ ((rpE bf ty sp).2.2 = -1 → sp + 4 ≤ (rpE bf ty sp).2.1) := ⟨(rpA_ok hb h).1, (rpC_ok hb h).1, (rpD_ok hb h).1, (rpE_ok hb h).1, (rpE_ok hb h).2⟩
theorem i4_3n {x : Int32} (h : ¬ 4 ≤ x) : x ≤ 3 := by
  have h1 : x.toInt < (4 : Int32).toInt := Int32.lt_iff_toInt_lt.mp (Int32.not_le.mp h)
  refine Int32.le_iff_toInt_le.mpr ?_
  rw [show (4 : Int32).toInt = 4 from rfl] at h1
  rw [show (3 : Int32).toInt = 3 from rfl]
  omega
/-- how a part's reading ends, from what stands behind its second sign -/
def rdE (M : gMo) (r : Nat × Int32) (pa : Nat → Int32) : gMo := wSpt (wWr (wPm (wPa M (upd pa (3 * mPm M + 2) (qE (mBf M) (mTy M) r).1)) (mPm M + 1)) (qE (mBf M) (mTy M) r).2.2) (qE (mBf M) (mTy M) r).2.1
abbrev rdF (M : gMo) (r : Int32 × Nat × Int32) : gMo := rdE M (qD (mBf M) (mTy M) (qC (mBf M) (mTy M) r)) (upd (upd (mPa M) (3 * mPm M) r.1) (3 * mPm M + 1) (ltI (mBf M) (mTy M) r.2.1 - 97))
theorem k_readPart3 (M : gMo) (h60 : mTy M ≤ 60) (hp : mPm M ≤ 12) (r : Nat × Int32) (pa : Nat → Int32) (hr : spOK (mTy M) r.1 r.2) {sc : Nat × (Nat → Int32)} {n0 : Nat} (hn0 : n0 ≤ 7) : gW K_Mo_readPart sc { frames := 2, locals := 46, cells := 0, slots := 0 } n0 (gD (.inl none) (cMo (rdE M r pa))) 0 0 68 [(0, .ref 0), (1, .int (nI (3 * mPm M)))] [] (cMo (wWr (wSpt (wPa M pa) r.1) r.2)) := by
  refine gW_b D_Mo_readPart 39 8 (pc' := 80) (l' := [(0, .ref 0), (1, .int (nI (3 * mPm M)))]) (st' := [.int 999, .int 0, .ref 0, .int ((nI (3 * mPm M)) + 2), .ref 6]) (h' := cMo (wWr (wSpt (wPa M pa) r.1) r.2)) (P := True) rfl trivial ?_
  refine gW_callV (n_number (wWr (wSpt (wPa M pa) r.1) r.2) 0 999 (by decide) h60 hr) lk_Mo_148 [0, 1, 2, 3, 4, 5, 6] (gdec_at D_Mo_readPart 47 rfl) (st := [.int ((nI (3 * mPm M)) + 2), .ref 6]) rfl rfl ⟨rfl, rfl⟩ (Nat.le_of_ble_eq_true rfl) rfl (by decide) rfl (Nat.le_of_ble_eq_true rfl) ⟨Nat.le_of_ble_eq_true rfl, Nat.le_of_ble_eq_true rfl⟩ ⟨Nat.le_of_ble_eq_true rfl, Nat.le_of_ble_eq_true rfl⟩ (gAft_r rfl rfl (h' := cMo (wWr (wSpt (wPa M pa) ((qE (mBf M) (mTy M) r).2.1)) ((qE (mBf M) (mTy M) r).2.2))) (st' := [.int ((qE (mBf M) (mTy M) r).1), .int ((nI (3 * mPm M)) + 2), .ref 6]) (pc' := 83) (cs' := 0) (ss' := 0) rfl rfl rfl rfl rfl ?_)
  refine gW_b D_Mo_readPart 48 7 (pc' := 94) (l' := [(0, .ref 0), (1, .int (nI (3 * mPm M)))]) (st' := []) (h' := [cO 6 [.int (mTh M), .ref 1, .ref 2, .int (nI (mN M)), .ref 3, .ref 4, .int (nI (mTy M)), .ref 5, .int (nI (mSt M)), .ref 6, .int ((nI (mPm M)) + 1), .int (nI ((qE (mBf M) (mTy M) r).2.1)), .int ((qE (mBf M) (mTy M) r).2.2), .long (mHs M)], cI 103 (zD (mD M)), cI 618 (svF (mDs M)), cI 103 (zD (mSp M)), cI 60 (mBf M), cI 10 (oF (mOd M)), cI 39 (upd pa (((nI (3 * mPm M)) + 2).toNatClampNeg) ((qE (mBf M) (mTy M) r).1))]) (P := vp_in ((nI (3 * mPm M)) + 2) 39 ∧ True) rfl ⟨(gvin (gadd (rfl : nI (3 * mPm M) = nI (3 * mPm M)) (gk 2)) (by omega) (by omega)), trivial⟩ ?_
  rw [show ((nI (3 * mPm M)) + 2).toNatClampNeg = ((3 * mPm M) + 2) from gclp (gadd (rfl : nI (3 * mPm M) = nI (3 * mPm M)) (gk 2)) (by omega)]
  rw [show ((nI (mPm M)) + 1 : Int32) = nI ((mPm M) + 1) from (gadd (rfl : nI (mPm M) = nI (mPm M)) (gk 1))]
  exact gW_vret (gdec_at D_Mo_readPart 55 rfl) rfl hn0 ⟨rfl, rfl⟩ (Nat.le_of_ble_eq_true rfl) (Nat.le_of_ble_eq_true rfl)
theorem k_readPart2 (M : gMo) (h60 : mTy M ≤ 60) (hp : mPm M ≤ 12) (r : Nat × Int32) (pa : Nat → Int32) (hr : spOK (mTy M) r.1 r.2) {sc : Nat × (Nat → Int32)} {n0 : Nat} (hn0 : n0 ≤ 7) : gW K_Mo_readPart sc { frames := 2, locals := 46, cells := 0, slots := 0 } n0 (gD (.inl none) (cMo (rdE M (qD (mBf M) (mTy M) r) pa))) 0 0 50 [(0, .ref 0), (1, .int (nI (3 * mPm M)))] [] (cMo (wWr (wSpt (wPa M pa) r.1) r.2)) := by
  have b1 := hr.1
  have hq := (wtR_ok (c := decide (ltI (mBf M) (mTy M) r.1 = 64)) h60 hr (fun q => ltE_lt (bf := mBf M) (by decide) q)).1
  refine gW_b D_Mo_readPart 30 2 (pc' := 52) (l' := [(0, .ref 0), (1, .int (nI (3 * mPm M)))]) (st' := [.ref 0, .ref 0]) (h' := cMo (wWr (wSpt (wPa M pa) r.1) r.2)) (P := True) rfl trivial ?_
  refine gW_callV (n_letter (wWr (wSpt (wPa M pa) r.1) r.2) h60 (show r.1 ≤ 61 by omega)) lk_Mo_138 [0, 1, 2, 3, 4, 5, 6] (gdec_at D_Mo_readPart 32 rfl) (st := [.ref 0]) rfl rfl ⟨rfl, rfl⟩ (Nat.le_of_ble_eq_true rfl) rfl (by decide) rfl (Nat.le_of_ble_eq_true rfl) ⟨Nat.le_of_ble_eq_true rfl, Nat.le_of_ble_eq_true rfl⟩ ⟨Nat.le_of_ble_eq_true rfl, Nat.le_of_ble_eq_true rfl⟩ (gAft_r rfl rfl (h' := cMo (wWr (wSpt (wPa M pa) r.1) r.2)) (st' := [.int (ltI (mBf M) (mTy M) r.1), .ref 0]) (pc' := 55) (cs' := 0) (ss' := 0) rfl rfl rfl rfl rfl ?_)
  refine gW_b D_Mo_readPart 33 1 (pc' := 57) (l' := [(0, .ref 0), (1, .int (nI (3 * mPm M)))]) (st' := [.int 64, .int (ltI (mBf M) (mTy M) r.1), .ref 0]) (h' := cMo (wWr (wSpt (wPa M pa) r.1) r.2)) (P := True) rfl trivial ?_
  refine gW_ic_ne (gdec_at D_Mo_readPart 34 rfl) (tgt := 64) rfl (fun e => ?_) (fun e => ?_)
  · skip
    refine gW_b D_Mo_readPart 37 1 (pc' := 65) (l' := [(0, .ref 0), (1, .int (nI (3 * mPm M)))]) (st' := [.int 0, .ref 0]) (h' := cMo (wWr (wSpt (wPa M pa) r.1) r.2)) (P := True) rfl trivial ?_
    refine gW_callV (n_wants0 (wWr (wSpt (wPa M pa) r.1) r.2) false (show r.1 ≤ 61 by omega)) lk_Mo_141 [0, 1, 2, 3, 4, 5, 6] (gdec_at D_Mo_readPart 38 rfl) (st := []) rfl rfl ⟨rfl, rfl⟩ (Nat.le_of_ble_eq_true rfl) rfl (by decide) rfl (Nat.le_of_ble_eq_true rfl) ⟨Nat.le_of_ble_eq_true rfl, Nat.le_of_ble_eq_true rfl⟩ ⟨Nat.le_of_ble_eq_true rfl, Nat.le_of_ble_eq_true rfl⟩ (gAft_r rfl rfl (h' := cMo (wWr (wSpt (wPa M pa) ((wtR false r.1 r.2).1)) ((wtR false r.1 r.2).2))) (st' := []) (pc' := 68) (cs' := 0) (ss' := 0) rfl rfl rfl rfl rfl ?_)
    rw [show wtR false r.1 r.2 = qD (mBf M) (mTy M) r from congrArg (fun c => wtR c r.1 r.2) (decide_eq_false e).symm]
    exact k_readPart3 M h60 hp (qD (mBf M) (mTy M) r) pa hq hn0
  · skip
    refine gW_b D_Mo_readPart 35 2 (pc' := 65) (l' := [(0, .ref 0), (1, .int (nI (3 * mPm M)))]) (st' := [.int 1, .ref 0]) (h' := cMo (wWr (wSpt (wPa M pa) r.1) r.2)) (P := True) rfl trivial ?_
    refine gW_callV (n_wants0 (wWr (wSpt (wPa M pa) r.1) r.2) true (show r.1 ≤ 61 by omega)) lk_Mo_141 [0, 1, 2, 3, 4, 5, 6] (gdec_at D_Mo_readPart 38 rfl) (st := []) rfl rfl ⟨rfl, rfl⟩ (Nat.le_of_ble_eq_true rfl) rfl (by decide) rfl (Nat.le_of_ble_eq_true rfl) ⟨Nat.le_of_ble_eq_true rfl, Nat.le_of_ble_eq_true rfl⟩ ⟨Nat.le_of_ble_eq_true rfl, Nat.le_of_ble_eq_true rfl⟩ (gAft_r rfl rfl (h' := cMo (wWr (wSpt (wPa M pa) ((wtR true r.1 r.2).1)) ((wtR true r.1 r.2).2))) (st' := []) (pc' := 68) (cs' := 0) (ss' := 0) rfl rfl rfl rfl rfl ?_)
    rw [show wtR true r.1 r.2 = qD (mBf M) (mTy M) r from congrArg (fun c => wtR c r.1 r.2) (decide_eq_true e).symm]
    exact k_readPart3 M h60 hp (qD (mBf M) (mTy M) r) pa hq hn0
theorem k_readPart1 (M : gMo) (h60 : mTy M ≤ 60) (hp : mPm M ≤ 12) (r : Int32 × Nat × Int32) (hr : spOK (mTy M) r.2.1 r.2.2) {sc : Nat × (Nat → Int32)} {n0 : Nat} (hn0 : n0 ≤ 7) : gW K_Mo_readPart sc { frames := 2, locals := 46, cells := 0, slots := 0 } n0 (gD (.inl none) (cMo (rdF M r))) 0 0 20 [(0, .ref 0), (1, .int (nI (3 * mPm M)))] [.int r.1, .int (nI (3 * mPm M)), .ref 6] (cMo (wWr (wSpt M r.2.1) r.2.2)) := by
  have b1 := hr.1
  have hq := (wtR_ok (c := isTn (ltI (mBf M) (mTy M) r.2.1 - 97)) h60 hr (fun q => isTn_lt q)).1
  refine gW_b D_Mo_readPart 12 7 (pc' := 29) (l' := [(0, .ref 0), (1, .int (nI (3 * mPm M)))]) (st' := [.ref 0, .int ((nI (3 * mPm M)) + 1), .ref 6]) (h' := cMo (wWr (wSpt (wPa M (upd (mPa M) ((nI (3 * mPm M)).toNatClampNeg) r.1)) r.2.1) r.2.2)) (P := vp_in (nI (3 * mPm M)) 39 ∧ True) rfl ⟨(gvin (rfl : nI (3 * mPm M) = nI (3 * mPm M)) (by omega) (by omega)), trivial⟩ ?_
  rw [show (nI (3 * mPm M)).toNatClampNeg = (3 * mPm M) from gclp (rfl : nI (3 * mPm M) = nI (3 * mPm M)) (by omega)]
  refine gW_callV (n_letter (wWr (wSpt (wPa M (upd (mPa M) (3 * mPm M) r.1)) r.2.1) r.2.2) h60 (show r.2.1 ≤ 61 by omega)) lk_Mo_138 [0, 1, 2, 3, 4, 5, 6] (gdec_at D_Mo_readPart 19 rfl) (st := [.int ((nI (3 * mPm M)) + 1), .ref 6]) rfl rfl ⟨rfl, rfl⟩ (Nat.le_of_ble_eq_true rfl) rfl (by decide) rfl (Nat.le_of_ble_eq_true rfl) ⟨Nat.le_of_ble_eq_true rfl, Nat.le_of_ble_eq_true rfl⟩ ⟨Nat.le_of_ble_eq_true rfl, Nat.le_of_ble_eq_true rfl⟩ (gAft_r rfl rfl (h' := cMo (wWr (wSpt (wPa M (upd (mPa M) (3 * mPm M) r.1)) r.2.1) r.2.2)) (st' := [.int (ltI (mBf M) (mTy M) r.2.1), .int ((nI (3 * mPm M)) + 1), .ref 6]) (pc' := 32) (cs' := 0) (ss' := 0) rfl rfl rfl rfl rfl ?_)
  refine gW_b D_Mo_readPart 20 5 (pc' := 38) (l' := [(0, .ref 0), (1, .int (nI (3 * mPm M)))]) (st' := [.ref 0, .ref 0]) (h' := cMo (wWr (wSpt (wPa M (upd (upd (mPa M) (3 * mPm M) r.1) (((nI (3 * mPm M)) + 1).toNatClampNeg) ((ltI (mBf M) (mTy M) r.2.1) - 97))) r.2.1) r.2.2)) (P := vp_in ((nI (3 * mPm M)) + 1) 39 ∧ True) rfl ⟨(gvin (gadd (rfl : nI (3 * mPm M) = nI (3 * mPm M)) (gk 1)) (by omega) (by omega)), trivial⟩ ?_
  rw [show ((nI (3 * mPm M)) + 1).toNatClampNeg = ((3 * mPm M) + 1) from gclp (gadd (rfl : nI (3 * mPm M) = nI (3 * mPm M)) (gk 1)) (by omega)]
  refine gW_callV (n_letter (wWr (wSpt (wPa M (upd (upd (mPa M) (3 * mPm M) r.1) ((3 * mPm M) + 1) ((ltI (mBf M) (mTy M) r.2.1) - 97))) r.2.1) r.2.2) h60 (show r.2.1 ≤ 61 by omega)) lk_Mo_138 [0, 1, 2, 3, 4, 5, 6] (gdec_at D_Mo_readPart 25 rfl) (st := [.ref 0]) rfl rfl ⟨rfl, rfl⟩ (Nat.le_of_ble_eq_true rfl) rfl (by decide) rfl (Nat.le_of_ble_eq_true rfl) ⟨Nat.le_of_ble_eq_true rfl, Nat.le_of_ble_eq_true rfl⟩ ⟨Nat.le_of_ble_eq_true rfl, Nat.le_of_ble_eq_true rfl⟩ (gAft_r rfl rfl (h' := cMo (wWr (wSpt (wPa M (upd (upd (mPa M) (3 * mPm M) r.1) ((3 * mPm M) + 1) ((ltI (mBf M) (mTy M) r.2.1) - 97))) r.2.1) r.2.2)) (st' := [.int (ltI (mBf M) (mTy M) r.2.1), .ref 0]) (pc' := 41) (cs' := 0) (ss' := 0) rfl rfl rfl rfl rfl ?_)
  refine gW_b D_Mo_readPart 26 2 (pc' := 44) (l' := [(0, .ref 0), (1, .int (nI (3 * mPm M)))]) (st' := [.int ((ltI (mBf M) (mTy M) r.2.1) - 97), .ref 0]) (h' := cMo (wWr (wSpt (wPa M (upd (upd (mPa M) (3 * mPm M) r.1) ((3 * mPm M) + 1) ((ltI (mBf M) (mTy M) r.2.1) - 97))) r.2.1) r.2.2)) (P := True) rfl trivial ?_
  by_cases d : ltI (mBf M) (mTy M) r.2.1 - 97 < 0 ∨ 4 ≤ ltI (mBf M) (mTy M) r.2.1 - 97
  · skip
    refine gW_callS (n_isTone_f ((ltI (mBf M) (mTy M) r.2.1) - 97) d) lk_Mo_58 [] (gdec_at D_Mo_readPart 28 rfl) (st := [.ref 0]) rfl rfl ⟨rfl, rfl⟩ (Nat.le_of_ble_eq_true rfl) (Nat.le_of_ble_eq_true rfl) ⟨Nat.le_of_ble_eq_true rfl, Nat.le_of_ble_eq_true rfl⟩ ⟨Nat.le_of_ble_eq_true rfl, Nat.le_of_ble_eq_true rfl⟩ (gAft_r rfl rfl (h' := cMo (wWr (wSpt (wPa M (upd (upd (mPa M) (3 * mPm M) r.1) ((3 * mPm M) + 1) ((ltI (mBf M) (mTy M) r.2.1) - 97))) r.2.1) r.2.2)) (st' := [.int 0, .ref 0]) (pc' := 47) (cs' := 0) (ss' := 0) rfl rfl rfl rfl rfl ?_)
    refine gW_callV (n_wants0 (wWr (wSpt (wPa M (upd (upd (mPa M) (3 * mPm M) r.1) ((3 * mPm M) + 1) ((ltI (mBf M) (mTy M) r.2.1) - 97))) r.2.1) r.2.2) false (show r.2.1 ≤ 61 by omega)) lk_Mo_141 [0, 1, 2, 3, 4, 5, 6] (gdec_at D_Mo_readPart 29 rfl) (st := []) rfl rfl ⟨rfl, rfl⟩ (Nat.le_of_ble_eq_true rfl) rfl (by decide) rfl (Nat.le_of_ble_eq_true rfl) ⟨Nat.le_of_ble_eq_true rfl, Nat.le_of_ble_eq_true rfl⟩ ⟨Nat.le_of_ble_eq_true rfl, Nat.le_of_ble_eq_true rfl⟩ (gAft_r rfl rfl (h' := cMo (wWr (wSpt (wPa M (upd (upd (mPa M) (3 * mPm M) r.1) ((3 * mPm M) + 1) ((ltI (mBf M) (mTy M) r.2.1) - 97))) ((wtR false r.2.1 r.2.2).1)) ((wtR false r.2.1 r.2.2).2))) (st' := []) (pc' := 50) (cs' := 0) (ss' := 0) rfl rfl rfl rfl rfl ?_)
    rw [show wtR false r.2.1 r.2.2 = qC (mBf M) (mTy M) r from congrArg (fun c => wtR c r.2.1 r.2.2) (decide_eq_false (fun q => q d)).symm]
    exact k_readPart2 M h60 hp (qC (mBf M) (mTy M) r) _ hq hn0
  · skip
    obtain ⟨tq, htq, htn⟩ : ∃ t, t < 4 ∧ ltI (mBf M) (mTy M) r.2.1 - 97 = nI t := by
      obtain ⟨t, h1, h2⟩ := nI_of2 (x := ltI (mBf M) (mTy M) r.2.1 - 97) (M := 3) (n := 3) rfl (fun q => d (Or.inl q)) (i4_3n (fun q => d (Or.inr q)))
      exact ⟨t, by omega, h2⟩
    refine gW_st (st' := [.int (nI tq), .ref 0]) (congrArg (fun x => (.int x :: [.ref 0] : List Value)) htn) ?_
    refine gW_callS (n_isTone_t tq (by omega)) lk_Mo_58 [] (gdec_at D_Mo_readPart 28 rfl) (st := [.ref 0]) rfl rfl ⟨rfl, rfl⟩ (Nat.le_of_ble_eq_true rfl) (Nat.le_of_ble_eq_true rfl) ⟨Nat.le_of_ble_eq_true rfl, Nat.le_of_ble_eq_true rfl⟩ ⟨Nat.le_of_ble_eq_true rfl, Nat.le_of_ble_eq_true rfl⟩ (gAft_r rfl rfl (h' := cMo (wWr (wSpt (wPa M (upd (upd (mPa M) (3 * mPm M) r.1) ((3 * mPm M) + 1) ((ltI (mBf M) (mTy M) r.2.1) - 97))) r.2.1) r.2.2)) (st' := [.int 1, .ref 0]) (pc' := 47) (cs' := 0) (ss' := 0) rfl rfl rfl rfl rfl ?_)
    refine gW_callV (n_wants0 (wWr (wSpt (wPa M (upd (upd (mPa M) (3 * mPm M) r.1) ((3 * mPm M) + 1) ((ltI (mBf M) (mTy M) r.2.1) - 97))) r.2.1) r.2.2) true (show r.2.1 ≤ 61 by omega)) lk_Mo_141 [0, 1, 2, 3, 4, 5, 6] (gdec_at D_Mo_readPart 29 rfl) (st := []) rfl rfl ⟨rfl, rfl⟩ (Nat.le_of_ble_eq_true rfl) rfl (by decide) rfl (Nat.le_of_ble_eq_true rfl) ⟨Nat.le_of_ble_eq_true rfl, Nat.le_of_ble_eq_true rfl⟩ ⟨Nat.le_of_ble_eq_true rfl, Nat.le_of_ble_eq_true rfl⟩ (gAft_r rfl rfl (h' := cMo (wWr (wSpt (wPa M (upd (upd (mPa M) (3 * mPm M) r.1) ((3 * mPm M) + 1) ((ltI (mBf M) (mTy M) r.2.1) - 97))) ((wtR true r.2.1 r.2.2).1)) ((wtR true r.2.1 r.2.2).2))) (st' := []) (pc' := 50) (cs' := 0) (ss' := 0) rfl rfl rfl rfl rfl ?_)
    rw [show wtR true r.2.1 r.2.2 = qC (mBf M) (mTy M) r from congrArg (fun c => wtR c r.2.1 r.2.2) (decide_eq_true d).symm]
    exact k_readPart2 M h60 hp (qC (mBf M) (mTy M) r) _ hq hn0
theorem n_readPart (M : gMo) (h60 : mTy M ≤ 60) (hs : mSpt M ≤ mTy M) (hp : mPm M ≤ 12) : gM K_Mo_readPart { frames := 2, locals := 46, cells := 0, slots := 0 } [.ref 0] (cMo (wWr M (-1))) (gD (.inl none) (cMo (rdF M (rpA (mBf M) (mTy M) (mSpt M))))) := by
  refine gM_of rfl rfl (Nat.le_of_ble_eq_true rfl) (fun sc => ?_)
  have hA := (rpA_ok (bf := mBf M) h60 hs).1
  refine gW_b D_Mo_readPart 0 11 (pc' := 17) (l' := [(0, .ref 0), (1, .int (3 * (nI (mPm M))))]) (st' := [.int 500, .int 1, .ref 0, .int (3 * (nI (mPm M))), .ref 6]) (h' := cMo (wWr M (-1))) (P := True) rfl trivial ?_
  rw [show (3 * (nI (mPm M)) : Int32) = nI (3 * (mPm M)) from (gmul (gk 3) (rfl : nI (mPm M) = nI (mPm M)))]
  refine gW_callV (n_number (wWr M (-1)) 1 500 (by decide) h60 ⟨(by show mSpt M ≤ mTy M + 1; omega), fun _ => hs⟩) lk_Mo_148 [0, 1, 2, 3, 4, 5, 6] (gdec_at D_Mo_readPart 11 rfl) (st := [.int (nI (3 * (mPm M))), .ref 6]) rfl rfl ⟨rfl, rfl⟩ (Nat.le_of_ble_eq_true rfl) rfl (by decide) rfl (Nat.le_of_ble_eq_true rfl) ⟨Nat.le_of_ble_eq_true rfl, Nat.le_of_ble_eq_true rfl⟩ ⟨Nat.le_of_ble_eq_true rfl, Nat.le_of_ble_eq_true rfl⟩ (gAft_r rfl rfl (h' := cMo (wWr (wSpt M ((rpA (mBf M) (mTy M) (mSpt M)).2.1)) ((rpA (mBf M) (mTy M) (mSpt M)).2.2))) (st' := [.int ((rpA (mBf M) (mTy M) (mSpt M)).1), .int (nI (3 * (mPm M))), .ref 6]) (pc' := 20) (cs' := 0) (ss' := 0) rfl rfl rfl rfl rfl ?_)
  exact k_readPart1 M h60 hp (rpA (mBf M) (mTy M) (mSpt M)) hA (n0 := 7) (Nat.le_refl 7)
