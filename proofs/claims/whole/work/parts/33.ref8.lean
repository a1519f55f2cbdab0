/-! THE REFERENCE's methods: the buffer. Printed by wip/whole/meths20.py -/
theorem n_readPart2 (M : gMo) (h60 : mTy M ≤ 60) (hs : mSpt M ≤ mTy M) (hp : mPm M ≤ 12) (e : Int32 × Nat × Int32) (f : Nat → Int32) (he : rpE (mBf M) (mTy M) (mSpt M) = e) (hf : rpF (mBf M) (mTy M) (mSpt M) (mPm M) (mPa M) = f) : gM K_Mo_readPart { frames := 2, locals := 46, cells := 0, slots := 0 } [.ref 0] (cMo (wWr M (-1))) (gD (.inl none) (cMo (wSpt (wWr (wPm (wPa M f) (mPm M + 1)) e.2.2) e.2.1))) := by
  have h := n_readPart M h60 hs hp
  have q : rdF M (rpA (mBf M) (mTy M) (mSpt M)) = wSpt (wWr (wPm (wPa M f) (mPm M + 1)) e.2.2) e.2.1 := by
    subst he
    subst hf
    unfold rdF rdE rpF rpE rpD rpC rpB
    rfl
  rw [q] at h
  exact h
/-- parts, spot, wrong, the parts read -/
abbrev gRb : Type := Nat × Nat × Int32 × (Nat → Int32)
def rbL (bf : Nat → Int32) (ty : Nat) : Nat → Nat → Nat → (Nat → Int32) → gRb
  | 0, pm, sp, pa => (pm, sp, -1, pa)
  | n + 1, pm, sp, pa => if (rpE bf ty sp).2.2 = -1 then if ty ≤ (rpE bf ty sp).2.1 then (pm + 1, (rpE bf ty sp).2.1, -1, rpF bf ty sp pm pa) else if ltI bf ty (rpE bf ty sp).2.1 = 59 then rbL bf ty n (pm + 1) ((rpE bf ty sp).2.1 + 1) (rpF bf ty sp pm pa) else (pm + 1, (rpE bf ty sp).2.1 + 1, nI (rpE bf ty sp).2.1, rpF bf ty sp pm pa) else (pm + 1, (rpE bf ty sp).2.1, (rpE bf ty sp).2.2, rpF bf ty sp pm pa)
/-- the buffer is read -/
def rbT (bf : Nat → Int32) (ty : Nat) (pa : Nat → Int32) : gRb := rbL bf ty (ty + 1) 0 0 pa
abbrev wRb (M : gMo) (r : gRb) : gMo := wWr (wSpt (wPm (wPa M r.2.2.2) r.1) r.2.1) r.2.2.1
theorem k_readBuffer (M : gMo) (h60 : mTy M ≤ 60) {sc : Nat × (Nat → Int32)} {n0 : Nat} (hn0 : n0 ≤ 7) : ∀ (n pm sp : Nat) (pa : Nat → Int32), sp ≤ mTy M → 5 * pm ≤ sp → mTy M < sp + n → gW K_Mo_readBuffer sc { frames := 3, locals := 67, cells := 0, slots := 0 } n0 (gD (.inl (some (.int (rbL (mBf M) (mTy M) n pm sp pa).2.2.1))) (cMo (wRb M (rbL (mBf M) (mTy M) n pm sp pa)))) 0 0 17 [(0, .ref 0), (1, .int 1)] [] (cMo (wRb M (pm, sp, -1, pa))) := by
  intro n
  induction n with
  | zero =>
    intro pm sp pa hs h5 hn
    exact absurd hn (by omega)
  | succ n ih =>
    intro pm sp pa hs h5 hn
    obtain ⟨-, -, -, ⟨hE1, hE2⟩, hE3⟩ := rp_ok (bf := mBf M) h60 hs
    have hR : rbL (mBf M) (mTy M) (n + 1) pm sp pa = if (rpE (mBf M) (mTy M) sp).2.2 = -1 then if mTy M ≤ (rpE (mBf M) (mTy M) sp).2.1 then (pm + 1, (rpE (mBf M) (mTy M) sp).2.1, -1, (rpF (mBf M) (mTy M) sp pm pa)) else if ltI (mBf M) (mTy M) (rpE (mBf M) (mTy M) sp).2.1 = 59 then rbL (mBf M) (mTy M) n (pm + 1) ((rpE (mBf M) (mTy M) sp).2.1 + 1) (rpF (mBf M) (mTy M) sp pm pa) else (pm + 1, (rpE (mBf M) (mTy M) sp).2.1 + 1, nI (rpE (mBf M) (mTy M) sp).2.1, (rpF (mBf M) (mTy M) sp pm pa)) else (pm + 1, (rpE (mBf M) (mTy M) sp).2.1, (rpE (mBf M) (mTy M) sp).2.2, (rpF (mBf M) (mTy M) sp pm pa)) := rfl
    generalize hEe : (rpE (mBf M) (mTy M) sp) = e at hE1 hE2 hE3 hR
    generalize hFf : (rpF (mBf M) (mTy M) sp pm pa) = f at hR
    refine gW_b D_Mo_readBuffer 11 1 (pc' := 18) (l' := [(0, .ref 0), (1, .int 1)]) (st' := [.int 1]) (h' := cMo (wWr (wSpt (wPm (wPa M pa) pm) sp) (-1))) (P := True) rfl trivial ?_
    refine gW_if_eq (gdec_at D_Mo_readBuffer 12 rfl) (tgt := 89) rfl (fun cq => absurd cq (by decide)) (fun _ => ?_)
    refine gW_b D_Mo_readBuffer 13 1 (pc' := 22) (l' := [(0, .ref 0), (1, .int 1)]) (st' := [.ref 0]) (h' := cMo (wWr (wSpt (wPm (wPa M pa) pm) sp) (-1))) (P := True) rfl trivial ?_
    refine gW_callV (n_readPart2 (wPm (wSpt (wPa M pa) sp) pm) h60 hs (show pm ≤ 12 by omega) e f hEe hFf) lk_Mo_151 [0, 1, 2, 3, 4, 5, 6] (gdec_at D_Mo_readBuffer 14 rfl) (st := []) rfl rfl ⟨rfl, rfl⟩ (Nat.le_of_ble_eq_true rfl) rfl (by decide) rfl (Nat.le_of_ble_eq_true rfl) ⟨Nat.le_of_ble_eq_true rfl, Nat.le_of_ble_eq_true rfl⟩ ⟨Nat.le_of_ble_eq_true rfl, Nat.le_of_ble_eq_true rfl⟩ (gAft_r rfl rfl (h' := cMo (wWr (wSpt (wPm (wPa M f) (pm + 1)) e.2.1) e.2.2)) (st' := []) (pc' := 25) (cs' := 0) (ss' := 0) rfl rfl rfl rfl rfl ?_)
    refine gW_b D_Mo_readBuffer 15 3 (pc' := 30) (l' := [(0, .ref 0), (1, .int 1)]) (st' := [.int (-1), .int e.2.2]) (h' := cMo (wWr (wSpt (wPm (wPa M f) (pm + 1)) e.2.1) e.2.2)) (P := True) rfl trivial ?_
    refine gW_ic_ne (gdec_at D_Mo_readBuffer 18 rfl) (tgt := 48) rfl (fun c => ?_) (fun c => ?_)
    · skip
      refine gW_b D_Mo_readBuffer 26 3 (pc' := 51) (l' := [(0, .ref 0), (1, .int 0)]) (st' := [.int 0]) (h' := cMo (wWr (wSpt (wPm (wPa M f) (pm + 1)) e.2.1) e.2.2)) (P := True) rfl trivial ?_
      refine gW_if_eq (gdec_at D_Mo_readBuffer 29 rfl) (tgt := 17) rfl (fun _ => ?_) (fun cq => absurd (by decide) cq)
      refine gW_b D_Mo_readBuffer 11 1 (pc' := 18) (l' := [(0, .ref 0), (1, .int 0)]) (st' := [.int 0]) (h' := cMo (wWr (wSpt (wPm (wPa M f) (pm + 1)) e.2.1) e.2.2)) (P := True) rfl trivial ?_
      refine gW_if_eq (gdec_at D_Mo_readBuffer 12 rfl) (tgt := 89) rfl (fun _ => ?_) (fun cq => absurd (by decide) cq)
      refine gW_b D_Mo_readBuffer 48 2 (pc' := 93) (l' := [(0, .ref 0), (1, .int 0)]) (st' := [.int e.2.2]) (h' := cMo (wWr (wSpt (wPm (wPa M f) (pm + 1)) e.2.1) e.2.2)) (P := True) rfl trivial ?_
      rw [hR, if_neg c]
      exact gW_iret (gdec_at D_Mo_readBuffer 50 rfl) rfl rfl hn0 ⟨rfl, rfl⟩ (Nat.le_of_ble_eq_true rfl) (Nat.le_of_ble_eq_true rfl)
    · skip
      have hs1 := hE2 c
      have hs4 := hE3 c
      refine gW_b D_Mo_readBuffer 19 4 (pc' := 41) (l' := [(0, .ref 0), (1, .int 1)]) (st' := [.int (nI (mTy M)), .int (nI e.2.1)]) (h' := cMo (wWr (wSpt (wPm (wPa M f) (pm + 1)) e.2.1) e.2.2)) (P := True) rfl trivial ?_
      refine gW_ic_ge (gdec_at D_Mo_readBuffer 23 rfl) (tgt := 48) rfl (fun d => ?_) (fun d => ?_)
      · have d := (gle (rfl : nI (mTy M) = nI (mTy M)) (rfl : nI e.2.1 = nI e.2.1) (by omega) (by omega)).mp d
        rw [hR, if_pos c, if_pos d]
        rw [c]
        refine gW_b D_Mo_readBuffer 26 3 (pc' := 51) (l' := [(0, .ref 0), (1, .int 0)]) (st' := [.int 0]) (h' := cMo (wWr (wSpt (wPm (wPa M f) (pm + 1)) e.2.1) (-1))) (P := True) rfl trivial ?_
        refine gW_if_eq (gdec_at D_Mo_readBuffer 29 rfl) (tgt := 17) rfl (fun _ => ?_) (fun cq => absurd (by decide) cq)
        refine gW_b D_Mo_readBuffer 11 1 (pc' := 18) (l' := [(0, .ref 0), (1, .int 0)]) (st' := [.int 0]) (h' := cMo (wWr (wSpt (wPm (wPa M f) (pm + 1)) e.2.1) (-1))) (P := True) rfl trivial ?_
        refine gW_if_eq (gdec_at D_Mo_readBuffer 12 rfl) (tgt := 89) rfl (fun _ => ?_) (fun cq => absurd (by decide) cq)
        refine gW_b D_Mo_readBuffer 48 2 (pc' := 93) (l' := [(0, .ref 0), (1, .int 0)]) (st' := [.int (-1)]) (h' := cMo (wWr (wSpt (wPm (wPa M f) (pm + 1)) e.2.1) (-1))) (P := True) rfl trivial ?_
        exact gW_iret (gdec_at D_Mo_readBuffer 50 rfl) rfl rfl hn0 ⟨rfl, rfl⟩ (Nat.le_of_ble_eq_true rfl) (Nat.le_of_ble_eq_true rfl)
      · have d := mt (gle (rfl : nI (mTy M) = nI (mTy M)) (rfl : nI e.2.1 = nI e.2.1) (by omega) (by omega)).mpr d
        refine gW_b D_Mo_readBuffer 24 2 (pc' := 49) (l' := [(0, .ref 0), (1, .int 1)]) (st' := [.int 1]) (h' := cMo (wWr (wSpt (wPm (wPa M f) (pm + 1)) e.2.1) e.2.2)) (P := True) rfl trivial ?_
        refine gW_b D_Mo_readBuffer 27 2 (pc' := 51) (l' := [(0, .ref 0), (1, .int 1)]) (st' := [.int 1]) (h' := cMo (wWr (wSpt (wPm (wPa M f) (pm + 1)) e.2.1) e.2.2)) (P := True) rfl trivial ?_
        refine gW_if_eq (gdec_at D_Mo_readBuffer 29 rfl) (tgt := 17) rfl (fun cq => absurd cq (by decide)) (fun _ => ?_)
        refine gW_b D_Mo_readBuffer 30 2 (pc' := 56) (l' := [(0, .ref 0), (1, .int 1)]) (st' := [.ref 0, .ref 0]) (h' := cMo (wWr (wSpt (wPm (wPa M f) (pm + 1)) e.2.1) e.2.2)) (P := True) rfl trivial ?_
        refine gW_callV (n_letter (wWr (wSpt (wPm (wPa M f) (pm + 1)) e.2.1) e.2.2) h60 (show e.2.1 ≤ 61 by omega)) lk_Mo_138 [0, 1, 2, 3, 4, 5, 6] (gdec_at D_Mo_readBuffer 32 rfl) (st := [.ref 0]) rfl rfl ⟨rfl, rfl⟩ (Nat.le_of_ble_eq_true rfl) rfl (by decide) rfl (Nat.le_of_ble_eq_true rfl) ⟨Nat.le_of_ble_eq_true rfl, Nat.le_of_ble_eq_true rfl⟩ ⟨Nat.le_of_ble_eq_true rfl, Nat.le_of_ble_eq_true rfl⟩ (gAft_r rfl rfl (h' := cMo (wWr (wSpt (wPm (wPa M f) (pm + 1)) e.2.1) e.2.2)) (st' := [.int (ltI (mBf M) (mTy M) e.2.1), .ref 0]) (pc' := 59) (cs' := 0) (ss' := 0) rfl rfl rfl rfl rfl ?_)
        refine gW_b D_Mo_readBuffer 33 1 (pc' := 61) (l' := [(0, .ref 0), (1, .int 1)]) (st' := [.int 59, .int (ltI (mBf M) (mTy M) e.2.1), .ref 0]) (h' := cMo (wWr (wSpt (wPm (wPa M f) (pm + 1)) e.2.1) e.2.2)) (P := True) rfl trivial ?_
        refine gW_ic_ne (gdec_at D_Mo_readBuffer 34 rfl) (tgt := 68) rfl (fun g => ?_) (fun g => ?_)
        · skip
          refine gW_b D_Mo_readBuffer 37 1 (pc' := 69) (l' := [(0, .ref 0), (1, .int 1)]) (st' := [.int 0, .ref 0]) (h' := cMo (wWr (wSpt (wPm (wPa M f) (pm + 1)) e.2.1) e.2.2)) (P := True) rfl trivial ?_
          refine gW_callV (n_wants0 (wWr (wSpt (wPm (wPa M f) (pm + 1)) e.2.1) e.2.2) false (show e.2.1 ≤ 61 by omega)) lk_Mo_141 [0, 1, 2, 3, 4, 5, 6] (gdec_at D_Mo_readBuffer 38 rfl) (st := []) rfl rfl ⟨rfl, rfl⟩ (Nat.le_of_ble_eq_true rfl) rfl (by decide) rfl (Nat.le_of_ble_eq_true rfl) ⟨Nat.le_of_ble_eq_true rfl, Nat.le_of_ble_eq_true rfl⟩ ⟨Nat.le_of_ble_eq_true rfl, Nat.le_of_ble_eq_true rfl⟩ (gAft_r rfl rfl (h' := cMo (wWr (wSpt (wPm (wPa M f) (pm + 1)) ((wtR false e.2.1 e.2.2).1)) ((wtR false e.2.1 e.2.2).2))) (st' := []) (pc' := 72) (cs' := 0) (ss' := 0) rfl rfl rfl rfl rfl ?_)
          rw [show wtR false e.2.1 e.2.2 = (e.2.1 + 1, nI e.2.1) from if_pos c]
          rw [hR, if_pos c, if_neg d, if_neg g]
          show gW K_Mo_readBuffer sc { frames := 3, locals := 67, cells := 0, slots := 0 } n0 _ 0 0 72 [(0, .ref 0), (1, .int 1)] [] (cMo (wWr (wSpt (wPm (wPa M f) (pm + 1)) (e.2.1 + 1)) (nI e.2.1)))
          refine gW_b D_Mo_readBuffer 39 3 (pc' := 77) (l' := [(0, .ref 0), (1, .int 1)]) (st' := [.int (-1), .int (nI e.2.1)]) (h' := cMo (wWr (wSpt (wPm (wPa M f) (pm + 1)) (e.2.1 + 1)) (nI e.2.1))) (P := True) rfl trivial ?_
          refine gW_ic_ne (gdec_at D_Mo_readBuffer 42 rfl) (tgt := 84) rfl (fun _ => ?_) (fun cq => absurd cq (nI_ne_m1 (by omega)))
          refine gW_b D_Mo_readBuffer 45 3 (pc' := 17) (l' := [(0, .ref 0), (1, .int 0)]) (st' := []) (h' := cMo (wWr (wSpt (wPm (wPa M f) (pm + 1)) (e.2.1 + 1)) (nI e.2.1))) (P := True) rfl trivial ?_
          refine gW_b D_Mo_readBuffer 11 1 (pc' := 18) (l' := [(0, .ref 0), (1, .int 0)]) (st' := [.int 0]) (h' := cMo (wWr (wSpt (wPm (wPa M f) (pm + 1)) (e.2.1 + 1)) (nI e.2.1))) (P := True) rfl trivial ?_
          refine gW_if_eq (gdec_at D_Mo_readBuffer 12 rfl) (tgt := 89) rfl (fun _ => ?_) (fun cq => absurd (by decide) cq)
          refine gW_b D_Mo_readBuffer 48 2 (pc' := 93) (l' := [(0, .ref 0), (1, .int 0)]) (st' := [.int (nI e.2.1)]) (h' := cMo (wWr (wSpt (wPm (wPa M f) (pm + 1)) (e.2.1 + 1)) (nI e.2.1))) (P := True) rfl trivial ?_
          exact gW_iret (gdec_at D_Mo_readBuffer 50 rfl) rfl rfl hn0 ⟨rfl, rfl⟩ (Nat.le_of_ble_eq_true rfl) (Nat.le_of_ble_eq_true rfl)
        · skip
          refine gW_b D_Mo_readBuffer 35 2 (pc' := 69) (l' := [(0, .ref 0), (1, .int 1)]) (st' := [.int 1, .ref 0]) (h' := cMo (wWr (wSpt (wPm (wPa M f) (pm + 1)) e.2.1) e.2.2)) (P := True) rfl trivial ?_
          refine gW_callV (n_wants0 (wWr (wSpt (wPm (wPa M f) (pm + 1)) e.2.1) e.2.2) true (show e.2.1 ≤ 61 by omega)) lk_Mo_141 [0, 1, 2, 3, 4, 5, 6] (gdec_at D_Mo_readBuffer 38 rfl) (st := []) rfl rfl ⟨rfl, rfl⟩ (Nat.le_of_ble_eq_true rfl) rfl (by decide) rfl (Nat.le_of_ble_eq_true rfl) ⟨Nat.le_of_ble_eq_true rfl, Nat.le_of_ble_eq_true rfl⟩ ⟨Nat.le_of_ble_eq_true rfl, Nat.le_of_ble_eq_true rfl⟩ (gAft_r rfl rfl (h' := cMo (wWr (wSpt (wPm (wPa M f) (pm + 1)) ((wtR true e.2.1 e.2.2).1)) ((wtR true e.2.1 e.2.2).2))) (st' := []) (pc' := 72) (cs' := 0) (ss' := 0) rfl rfl rfl rfl rfl ?_)
          rw [show wtR true e.2.1 e.2.2 = (e.2.1 + 1, -1) from if_pos c]
          rw [hR, if_pos c, if_neg d, if_pos g]
          show gW K_Mo_readBuffer sc { frames := 3, locals := 67, cells := 0, slots := 0 } n0 _ 0 0 72 [(0, .ref 0), (1, .int 1)] [] (cMo (wWr (wSpt (wPm (wPa M f) (pm + 1)) (e.2.1 + 1)) (-1)))
          refine gW_b D_Mo_readBuffer 39 3 (pc' := 77) (l' := [(0, .ref 0), (1, .int 1)]) (st' := [.int (-1), .int (-1)]) (h' := cMo (wWr (wSpt (wPm (wPa M f) (pm + 1)) (e.2.1 + 1)) (-1))) (P := True) rfl trivial ?_
          refine gW_ic_ne (gdec_at D_Mo_readBuffer 42 rfl) (tgt := 84) rfl (fun cq => absurd (by decide) cq) (fun _ => ?_)
          refine gW_b D_Mo_readBuffer 43 2 (pc' := 85) (l' := [(0, .ref 0), (1, .int 1)]) (st' := [.int 1]) (h' := cMo (wWr (wSpt (wPm (wPa M f) (pm + 1)) (e.2.1 + 1)) (-1))) (P := True) rfl trivial ?_
          refine gW_b D_Mo_readBuffer 46 2 (pc' := 17) (l' := [(0, .ref 0), (1, .int 1)]) (st' := []) (h' := cMo (wWr (wSpt (wPm (wPa M f) (pm + 1)) (e.2.1 + 1)) (-1))) (P := True) rfl trivial ?_
          exact ih (pm + 1) (e.2.1 + 1) f (by omega) (by omega) (by omega)
theorem n_readBuffer (M : gMo) (r : gRb) (hr : rbT (mBf M) (mTy M) (mPa M) = r) (h60 : mTy M ≤ 60) : gM K_Mo_readBuffer { frames := 3, locals := 67, cells := 0, slots := 0 } [.ref 0] (cMo M) (gD (.inl (some (.int r.2.2.1))) (cMo (wRb M r))) := by
  refine gM_of rfl rfl (Nat.le_of_ble_eq_true rfl) (fun sc => ?_)
  refine gW_b D_Mo_readBuffer 0 11 (pc' := 17) (l' := [(0, .ref 0), (1, .int 1)]) (st' := []) (h' := cMo (wWr (wSpt (wPm M 0) 0) (-1))) (P := True) rfl trivial ?_
  rw [← hr]
  unfold rbT
  exact k_readBuffer M h60 (n0 := 7) (Nat.le_refl 7) (mTy M + 1) 0 0 (mPa M) (Nat.zero_le _) (Nat.le_refl _) (by omega)
def feI (r : gRb) (ty : Nat) : Int32 := if r.2.2.1 = -1 then nI ty else r.2.2.1
theorem n_firstError (M : gMo) (r : gRb) (hr : rbT (mBf M) (mTy M) (mPa M) = r) (h60 : mTy M ≤ 60) : gM K_Mo_firstError { frames := 4, locals := 88, cells := 0, slots := 0 } [.ref 0] (cMo M) (gD (.inl (some (.int (feI r (mTy M))))) (cMo (wWr (wSpt (wPm (wPa (wTh M 0) r.2.2.2) r.1) r.2.1) r.2.2.1))) := by
  refine gM_of rfl rfl (Nat.le_of_ble_eq_true rfl) (fun sc => ?_)
  refine gW_b D_Mo_firstError 0 4 (pc' := 6) (l' := [(0, .ref 0)]) (st' := [.ref 0]) (h' := cMo (wTh M 0)) (P := True) rfl trivial ?_
  refine gW_callV (n_readBuffer (wTh M 0) r hr h60) lk_Mo_154 [0, 1, 2, 3, 4, 5, 6] (gdec_at D_Mo_firstError 4 rfl) (st := []) rfl rfl ⟨rfl, rfl⟩ (Nat.le_of_ble_eq_true rfl) rfl (by decide) rfl (Nat.le_of_ble_eq_true rfl) ⟨Nat.le_of_ble_eq_true rfl, Nat.le_of_ble_eq_true rfl⟩ ⟨Nat.le_of_ble_eq_true rfl, Nat.le_of_ble_eq_true rfl⟩ (gAft_r rfl rfl (h' := cMo (wWr (wSpt (wPm (wPa (wTh M 0) r.2.2.2) r.1) r.2.1) r.2.2.1)) (st' := [.int r.2.2.1]) (pc' := 9) (cs' := 0) (ss' := 0) rfl rfl rfl rfl rfl ?_)
  refine gW_b D_Mo_firstError 5 3 (pc' := 12) (l' := [(0, .ref 0), (1, .int r.2.2.1)]) (st' := [.int (-1), .int r.2.2.1]) (h' := cMo (wWr (wSpt (wPm (wPa (wTh M 0) r.2.2.2) r.1) r.2.1) r.2.2.1)) (P := True) rfl trivial ?_
  refine gW_ic_ne (gdec_at D_Mo_firstError 8 rfl) (tgt := 22) rfl (fun c => ?_) (fun c => ?_)
  · skip
    rw [show feI r (mTy M) = r.2.2.1 from if_neg c]
    refine gW_b D_Mo_firstError 12 1 (pc' := 23) (l' := [(0, .ref 0), (1, .int r.2.2.1)]) (st' := [.int r.2.2.1]) (h' := cMo (wWr (wSpt (wPm (wPa (wTh M 0) r.2.2.2) r.1) r.2.1) r.2.2.1)) (P := True) rfl trivial ?_
    exact gW_iret (gdec_at D_Mo_firstError 13 rfl) rfl rfl (Nat.le_of_ble_eq_true rfl) ⟨rfl, rfl⟩ (Nat.le_of_ble_eq_true rfl) (Nat.le_of_ble_eq_true rfl)
  · skip
    rw [show feI r (mTy M) = nI (mTy M) from if_pos c]
    refine gW_b D_Mo_firstError 9 3 (pc' := 23) (l' := [(0, .ref 0), (1, .int r.2.2.1)]) (st' := [.int (nI (mTy M))]) (h' := cMo (wWr (wSpt (wPm (wPa (wTh M 0) r.2.2.2) r.1) r.2.1) r.2.2.1)) (P := True) rfl trivial ?_
    exact gW_iret (gdec_at D_Mo_firstError 13 rfl) rfl rfl (Nat.le_of_ble_eq_true rfl) ⟨rfl, rfl⟩ (Nat.le_of_ble_eq_true rfl) (Nat.le_of_ble_eq_true rfl)
def aaR (D : gDom) (pa : Nat → Int32) : Nat → gDom
  | 0 => D
  | i + 1 => adR (aaR D pa i) (pa (3 * i + 1)) (pa (3 * i)) (pa (3 * i + 2))
theorem aaR_sz (D : gDom) (pa : Nat → Int32) : ∀ i, dSz (aaR D pa i) = dSz D + i
  | 0 => rfl
  | i + 1 => by
    show dSz (aaR D pa i) + 1 = dSz D + (i + 1)
    rw [aaR_sz D pa i]
    rfl
theorem rbL_pm {bf : Nat → Int32} {ty : Nat} (h60 : ty ≤ 60) : ∀ (n pm sp : Nat) (pa : Nat → Int32), sp ≤ ty → 5 * pm ≤ sp → ty < sp + n → (rbL bf ty n pm sp pa).1 ≤ 13
  | 0, pm, sp, pa, hs, h5, hn => absurd hn (by omega)
  | n + 1, pm, sp, pa, hs, h5, hn => by
    obtain ⟨-, -, -, ⟨hE1, hE2⟩, hE3⟩ := rp_ok (bf := bf) h60 hs
    unfold rbL
    generalize rpE bf ty sp = e at hE1 hE2 hE3 ⊢
    by_cases c : e.2.2 = -1
    · have h1 := hE2 c
      have h2 := hE3 c
      rw [if_pos c]
      by_cases d : ty ≤ e.2.1
      · rw [if_pos d]
        show pm + 1 ≤ 13
        omega
      · rw [if_neg d]
        by_cases g : ltI bf ty e.2.1 = 59
        · rw [if_pos g]
          exact rbL_pm h60 n (pm + 1) (e.2.1 + 1) _ (by omega) (by omega) (by omega)
        · rw [if_neg g]
          show pm + 1 ≤ 13
          omega
    · rw [if_neg c]
      show pm + 1 ≤ 13
      omega
theorem rbT_pm {bf : Nat → Int32} {ty : Nat} (h60 : ty ≤ 60) (pa : Nat → Int32) : (rbT bf ty pa).1 ≤ 13 := rbL_pm h60 (ty + 1) 0 0 pa (Nat.zero_le _) (Nat.le_refl _) (by omega)
theorem k_addAll (M : gMo) (h2 : dSz (mD M) + mPm M ≤ 10) {sc : Nat × (Nat → Int32)} {n0 : Nat} {E : gO → gH → Prop} (kk : gW K_Mo_addAll sc { frames := 4, locals := 88, cells := 0, slots := 0 } n0 E 0 0 100 [(0, .ref 0), (1, .int (nI (mPm M)))] [] (cMo (wD M (aaR (mD M) (mPa M) (mPm M))))) : ∀ (n i : Nat), i + n = mPm M → gW K_Mo_addAll sc { frames := 4, locals := 88, cells := 0, slots := 0 } n0 E 0 0 53 [(0, .ref 0), (1, .int (nI i))] [] (cMo (wD M (aaR (mD M) (mPa M) i))) := by
  intro n
  induction n with
  | zero =>
    intro i hi
    obtain rfl : mPm M = i := by omega
    refine gW_b D_Mo_addAll 29 3 (pc' := 58) (l' := [(0, .ref 0), (1, .int (nI (mPm M)))]) (st' := [.int (nI (mPm M)), .int (nI (mPm M))]) (h' := cMo (wD M (aaR (mD M) (mPa M) (mPm M)))) (P := True) rfl trivial ?_
    refine gW_ic_ge (gdec_at D_Mo_addAll 32 rfl) (tgt := 100) rfl (fun _ => ?_) (fun cq => absurd ((gle (rfl : nI (mPm M) = nI (mPm M)) (rfl : nI (mPm M) = nI (mPm M)) (by omega) (by omega)).mpr (by omega)) cq)
    exact kk
  | succ n ih =>
    intro i hi
    refine gW_b D_Mo_addAll 29 3 (pc' := 58) (l' := [(0, .ref 0), (1, .int (nI i))]) (st' := [.int (nI (mPm M)), .int (nI i)]) (h' := cMo (wD M (aaR (mD M) (mPa M) i))) (P := True) rfl trivial ?_
    refine gW_ic_ge (gdec_at D_Mo_addAll 32 rfl) (tgt := 100) rfl (fun cq => absurd cq (mt (gle (rfl : nI (mPm M) = nI (mPm M)) (rfl : nI i = nI i) (by omega) (by omega)).mp (by omega))) (fun _ => ?_)
    have hz := aaR_sz (mD M) (mPa M) i
    refine gW_b D_Mo_addAll 33 23 (pc' := 90) (l' := [(0, .ref 0), (1, .int (nI i))]) (st' := [.int ((mPa M) (((3 * (nI i)) + 2).toNatClampNeg)), .int ((mPa M) ((3 * (nI i)).toNatClampNeg)), .int ((mPa M) (((3 * (nI i)) + 1).toNatClampNeg)), .ref 0]) (h' := cMo (wD M (aaR (mD M) (mPa M) i))) (P := vp_in ((3 * (nI i)) + 1) 39 ∧ vp_in (3 * (nI i)) 39 ∧ vp_in ((3 * (nI i)) + 2) 39 ∧ True) rfl ⟨(gvin (gadd (gmul (gk 3) (rfl : nI i = nI i)) (gk 1)) (by omega) (by omega)), (gvin (gmul (gk 3) (rfl : nI i = nI i)) (by omega) (by omega)), (gvin (gadd (gmul (gk 3) (rfl : nI i = nI i)) (gk 2)) (by omega) (by omega)), trivial⟩ ?_
    rw [show ((3 * (nI i)) + 1).toNatClampNeg = ((3 * i) + 1) from gclp (gadd (gmul (gk 3) (rfl : nI i = nI i)) (gk 1)) (by omega)]
    rw [show (3 * (nI i)).toNatClampNeg = (3 * i) from gclp (gmul (gk 3) (rfl : nI i = nI i)) (by omega)]
    rw [show ((3 * (nI i)) + 2).toNatClampNeg = ((3 * i) + 2) from gclp (gadd (gmul (gk 3) (rfl : nI i = nI i)) (gk 2)) (by omega)]
    refine gW_callV (n_sectionAdded (wD M (aaR (mD M) (mPa M) i)) ((mPa M) (((3 * i) + 1))) ((mPa M) ((3 * i))) ((mPa M) (((3 * i) + 2))) (show dSz (aaR (mD M) (mPa M) i) < 10 by omega)) lk_Mo_72 [0, 1, 2, 3, 4, 5, 6] (gdec_at D_Mo_addAll 56 rfl) (st := []) rfl rfl ⟨rfl, rfl⟩ (Nat.le_of_ble_eq_true rfl) rfl (by decide) rfl (Nat.le_of_ble_eq_true rfl) ⟨Nat.le_of_ble_eq_true rfl, Nat.le_of_ble_eq_true rfl⟩ ⟨Nat.le_of_ble_eq_true rfl, Nat.le_of_ble_eq_true rfl⟩ (gAft_r rfl rfl (h' := cMo (wD M (adR (aaR (mD M) (mPa M) i) ((mPa M) (((3 * i) + 1))) ((mPa M) ((3 * i))) ((mPa M) (((3 * i) + 2)))))) (st' := [.int (dC (aaR (mD M) (mPa M) i))]) (pc' := 93) (cs' := 0) (ss' := 0) rfl rfl rfl rfl rfl ?_)
    refine gW_b D_Mo_addAll 57 3 (pc' := 53) (l' := [(0, .ref 0), (1, .int ((nI i) + 1))]) (st' := []) (h' := cMo (wD M (adR (aaR (mD M) (mPa M) i) ((mPa M) (((3 * i) + 1))) ((mPa M) ((3 * i))) ((mPa M) (((3 * i) + 2)))))) (P := True) rfl trivial ?_
    rw [show ((nI i) + 1 : Int32) = nI (i + 1) from (gadd (rfl : nI i = nI i) (gk 1))]
    exact ih (i + 1) (by omega)
theorem n_addAll (M : gMo) (r : gRb) (hr : rbT (mBf M) (mTy M) (mPa M) = r) (h60 : mTy M ≤ 60) (hn : mN M ≤ 6) (h1 : r.2.2.1 = -1) (h2 : dSz (mD M) + r.1 ≤ 10) : gM K_Mo_addAll { frames := 4, locals := 88, cells := 0, slots := 0 } [.ref 0] (cMo M) (gD (.inl (some (.int (nI (dSz (aaR (mD M) r.2.2.2 r.1)))))) (cMo (wWr (wSpt (wPm (wPa (wTy (wN (wDs (wD (wTh M 0) (aaR (mD M) r.2.2.2 r.1)) (svDs (mN M) (mDs M) (mD M))) (svN (mN M))) 0) r.2.2.2) r.1) r.2.1) r.2.2.1))) := by
  refine gM_of rfl rfl (Nat.le_of_ble_eq_true rfl) (fun sc => ?_)
  refine gW_b D_Mo_addAll 0 2 (pc' := 2) (l' := [(0, .ref 0)]) (st' := [.ref 0, .ref 0]) (h' := cMo M) (P := True) rfl trivial ?_
  refine gW_callV (n_readBuffer M r hr h60) lk_Mo_154 [0, 1, 2, 3, 4, 5, 6] (gdec_at D_Mo_addAll 2 rfl) (st := [.ref 0]) rfl rfl ⟨rfl, rfl⟩ (Nat.le_of_ble_eq_true rfl) rfl (by decide) rfl (Nat.le_of_ble_eq_true rfl) ⟨Nat.le_of_ble_eq_true rfl, Nat.le_of_ble_eq_true rfl⟩ ⟨Nat.le_of_ble_eq_true rfl, Nat.le_of_ble_eq_true rfl⟩ (gAft_r rfl rfl (h' := cMo (wWr (wSpt (wPm (wPa M r.2.2.2) r.1) r.2.1) r.2.2.1)) (st' := [.int r.2.2.1, .ref 0]) (pc' := 5) (cs' := 0) (ss' := 0) rfl rfl rfl rfl rfl ?_)
  refine gW_b D_Mo_addAll 3 1 (pc' := 6) (l' := [(0, .ref 0)]) (st' := [.int (-1), .int r.2.2.1, .ref 0]) (h' := cMo (wWr (wSpt (wPm (wPa M r.2.2.2) r.1) r.2.1) r.2.2.1)) (P := True) rfl trivial ?_
  refine gW_ic_eq (gdec_at D_Mo_addAll 4 rfl) (tgt := 13) rfl (fun _ => ?_) (fun cq => absurd h1 cq)
  refine gW_b D_Mo_addAll 7 8 (pc' := 27) (l' := [(0, .ref 0)]) (st' := [.int 10, .int ((nI (dSz (mD M))) + (nI r.1)), .ref 0]) (h' := cMo (wWr (wSpt (wPm (wPa M r.2.2.2) r.1) r.2.1) r.2.2.1)) (P := vp_in 52 103 ∧ True) rfl ⟨(gvl 52 103 (by omega) (by omega)), trivial⟩ ?_
  refine gW_ic_le (gdec_at D_Mo_addAll 15 rfl) (tgt := 34) rfl (fun _ => ?_) (fun cq => absurd ((gle (gadd (rfl : nI (dSz (mD M)) = nI (dSz (mD M))) (rfl : nI r.1 = nI r.1)) (gk 10) (by omega) (by omega)).mpr (by omega)) cq)
  refine gW_b D_Mo_addAll 18 4 (pc' := 42) (l' := [(0, .ref 0)]) (st' := [.int 0]) (h' := cMo (wWr (wSpt (wPm (wPa (wTh M 0) r.2.2.2) r.1) r.2.1) r.2.2.1)) (P := True) rfl trivial ?_
  refine gW_if_le (gdec_at D_Mo_addAll 22 rfl) (tgt := 47) rfl (fun _ => ?_) (fun cq => absurd (by decide) cq)
  refine gW_b D_Mo_addAll 25 1 (pc' := 48) (l' := [(0, .ref 0)]) (st' := [.ref 0]) (h' := cMo (wWr (wSpt (wPm (wPa (wTh M 0) r.2.2.2) r.1) r.2.1) r.2.2.1)) (P := True) rfl trivial ?_
  refine gW_callV (n_save (wWr (wSpt (wPm (wPa (wTh M 0) r.2.2.2) r.1) r.2.1) r.2.2.1) (by first | assumption | omega) ) lk_Mo_62 [0, 1, 2, 3, 4, 5, 6] (gdec_at D_Mo_addAll 26 rfl) (st := []) rfl rfl ⟨rfl, rfl⟩ (Nat.le_of_ble_eq_true rfl) rfl (by decide) rfl (Nat.le_of_ble_eq_true rfl) ⟨Nat.le_of_ble_eq_true rfl, Nat.le_of_ble_eq_true rfl⟩ ⟨Nat.le_of_ble_eq_true rfl, Nat.le_of_ble_eq_true rfl⟩ (gAft_r rfl rfl (h' := cMo (wWr (wSpt (wPm (wPa (wN (wDs (wTh M 0) (svDs (mN M) (mDs M) (mD M))) (svN (mN M))) r.2.2.2) r.1) r.2.1) r.2.2.1)) (st' := []) (pc' := 51) (cs' := 0) (ss' := 0) rfl rfl rfl rfl rfl ?_)
  refine gW_b D_Mo_addAll 27 2 (pc' := 53) (l' := [(0, .ref 0), (1, .int 0)]) (st' := []) (h' := cMo (wWr (wSpt (wPm (wPa (wN (wDs (wTh M 0) (svDs (mN M) (mDs M) (mD M))) (svN (mN M))) r.2.2.2) r.1) r.2.1) r.2.2.1)) (P := True) rfl trivial ?_
  refine k_addAll (wWr (wSpt (wPm (wPa (wN (wDs (wTh M 0) (svDs (mN M) (mDs M) (mD M))) (svN (mN M))) r.2.2.2) r.1) r.2.1) r.2.2.1) h2 ?_ r.1 0 (Nat.zero_add _)
  refine gW_b D_Mo_addAll 60 7 (pc' := 112) (l' := [(0, .ref 0), (1, .int (nI r.1))]) (st' := [.int (nI (dSz (aaR (mD M) r.2.2.2 r.1)))]) (h' := cMo (wWr (wSpt (wPm (wPa (wTy (wN (wDs (wD (wTh M 0) (aaR (mD M) r.2.2.2 r.1)) (svDs (mN M) (mDs M) (mD M))) (svN (mN M))) 0) r.2.2.2) r.1) r.2.1) r.2.2.1)) (P := vp_in 52 103 ∧ True) rfl ⟨(gvl 52 103 (by omega) (by omega)), trivial⟩ ?_
  exact gW_iret (gdec_at D_Mo_addAll 67 rfl) rfl rfl (Nat.le_of_ble_eq_true rfl) ⟨rfl, rfl⟩ (Nat.le_of_ble_eq_true rfl) (Nat.le_of_ble_eq_true rfl)
theorem n_addAll_x1 (M : gMo) (r : gRb) (hr : rbT (mBf M) (mTy M) (mPa M) = r) (h60 : mTy M ≤ 60) (h1 : ¬ r.2.2.1 = -1) : gM K_Mo_addAll { frames := 4, locals := 88, cells := 0, slots := 0 } [.ref 0] (cMo M) (gD (.inl (some (.int 0))) (cMo (wWr (wSpt (wPm (wPa (wTh M 1) r.2.2.2) r.1) r.2.1) r.2.2.1))) := by
  refine gM_of rfl rfl (Nat.le_of_ble_eq_true rfl) (fun sc => ?_)
  refine gW_b D_Mo_addAll 0 2 (pc' := 2) (l' := [(0, .ref 0)]) (st' := [.ref 0, .ref 0]) (h' := cMo M) (P := True) rfl trivial ?_
  refine gW_callV (n_readBuffer M r hr h60) lk_Mo_154 [0, 1, 2, 3, 4, 5, 6] (gdec_at D_Mo_addAll 2 rfl) (st := [.ref 0]) rfl rfl ⟨rfl, rfl⟩ (Nat.le_of_ble_eq_true rfl) rfl (by decide) rfl (Nat.le_of_ble_eq_true rfl) ⟨Nat.le_of_ble_eq_true rfl, Nat.le_of_ble_eq_true rfl⟩ ⟨Nat.le_of_ble_eq_true rfl, Nat.le_of_ble_eq_true rfl⟩ (gAft_r rfl rfl (h' := cMo (wWr (wSpt (wPm (wPa M r.2.2.2) r.1) r.2.1) r.2.2.1)) (st' := [.int r.2.2.1, .ref 0]) (pc' := 5) (cs' := 0) (ss' := 0) rfl rfl rfl rfl rfl ?_)
  refine gW_b D_Mo_addAll 3 1 (pc' := 6) (l' := [(0, .ref 0)]) (st' := [.int (-1), .int r.2.2.1, .ref 0]) (h' := cMo (wWr (wSpt (wPm (wPa M r.2.2.2) r.1) r.2.1) r.2.2.1)) (P := True) rfl trivial ?_
  refine gW_ic_eq (gdec_at D_Mo_addAll 4 rfl) (tgt := 13) rfl (fun cq => absurd cq h1) (fun _ => ?_)
  refine gW_b D_Mo_addAll 5 2 (pc' := 35) (l' := [(0, .ref 0)]) (st' := [.int 1, .ref 0]) (h' := cMo (wWr (wSpt (wPm (wPa M r.2.2.2) r.1) r.2.1) r.2.2.1)) (P := True) rfl trivial ?_
  refine gW_b D_Mo_addAll 19 3 (pc' := 42) (l' := [(0, .ref 0)]) (st' := [.int 1]) (h' := cMo (wWr (wSpt (wPm (wPa (wTh M 1) r.2.2.2) r.1) r.2.1) r.2.2.1)) (P := True) rfl trivial ?_
  refine gW_if_le (gdec_at D_Mo_addAll 22 rfl) (tgt := 47) rfl (fun cq => absurd cq (by decide)) (fun _ => ?_)
  refine gW_b D_Mo_addAll 23 1 (pc' := 46) (l' := [(0, .ref 0)]) (st' := [.int 0]) (h' := cMo (wWr (wSpt (wPm (wPa (wTh M 1) r.2.2.2) r.1) r.2.1) r.2.2.1)) (P := True) rfl trivial ?_
  exact gW_iret (gdec_at D_Mo_addAll 24 rfl) rfl rfl (Nat.le_of_ble_eq_true rfl) ⟨rfl, rfl⟩ (Nat.le_of_ble_eq_true rfl) (Nat.le_of_ble_eq_true rfl)
theorem n_addAll_x2 (M : gMo) (r : gRb) (hr : rbT (mBf M) (mTy M) (mPa M) = r) (h60 : mTy M ≤ 60) (hs : dSz (mD M) ≤ 10) (h1 : r.2.2.1 = -1) (h2 : ¬ dSz (mD M) + r.1 ≤ 10) : gM K_Mo_addAll { frames := 4, locals := 88, cells := 0, slots := 0 } [.ref 0] (cMo M) (gD (.inl (some (.int 0))) (cMo (wWr (wSpt (wPm (wPa (wTh M 2) r.2.2.2) r.1) r.2.1) r.2.2.1))) := by
  refine gM_of rfl rfl (Nat.le_of_ble_eq_true rfl) (fun sc => ?_)
  have hp := rbT_pm (bf := mBf M) h60 (mPa M)
  rw [hr] at hp
  refine gW_b D_Mo_addAll 0 2 (pc' := 2) (l' := [(0, .ref 0)]) (st' := [.ref 0, .ref 0]) (h' := cMo M) (P := True) rfl trivial ?_
  refine gW_callV (n_readBuffer M r hr h60) lk_Mo_154 [0, 1, 2, 3, 4, 5, 6] (gdec_at D_Mo_addAll 2 rfl) (st := [.ref 0]) rfl rfl ⟨rfl, rfl⟩ (Nat.le_of_ble_eq_true rfl) rfl (by decide) rfl (Nat.le_of_ble_eq_true rfl) ⟨Nat.le_of_ble_eq_true rfl, Nat.le_of_ble_eq_true rfl⟩ ⟨Nat.le_of_ble_eq_true rfl, Nat.le_of_ble_eq_true rfl⟩ (gAft_r rfl rfl (h' := cMo (wWr (wSpt (wPm (wPa M r.2.2.2) r.1) r.2.1) r.2.2.1)) (st' := [.int r.2.2.1, .ref 0]) (pc' := 5) (cs' := 0) (ss' := 0) rfl rfl rfl rfl rfl ?_)
  refine gW_b D_Mo_addAll 3 1 (pc' := 6) (l' := [(0, .ref 0)]) (st' := [.int (-1), .int r.2.2.1, .ref 0]) (h' := cMo (wWr (wSpt (wPm (wPa M r.2.2.2) r.1) r.2.1) r.2.2.1)) (P := True) rfl trivial ?_
  refine gW_ic_eq (gdec_at D_Mo_addAll 4 rfl) (tgt := 13) rfl (fun _ => ?_) (fun cq => absurd h1 cq)
  refine gW_b D_Mo_addAll 7 8 (pc' := 27) (l' := [(0, .ref 0)]) (st' := [.int 10, .int ((nI (dSz (mD M))) + (nI r.1)), .ref 0]) (h' := cMo (wWr (wSpt (wPm (wPa M r.2.2.2) r.1) r.2.1) r.2.2.1)) (P := vp_in 52 103 ∧ True) rfl ⟨(gvl 52 103 (by omega) (by omega)), trivial⟩ ?_
  refine gW_ic_le (gdec_at D_Mo_addAll 15 rfl) (tgt := 34) rfl (fun cq => absurd cq (mt (gle (gadd (rfl : nI (dSz (mD M)) = nI (dSz (mD M))) (rfl : nI r.1 = nI r.1)) (gk 10) (by omega) (by omega)).mp (by omega))) (fun _ => ?_)
  refine gW_b D_Mo_addAll 16 2 (pc' := 35) (l' := [(0, .ref 0)]) (st' := [.int 2, .ref 0]) (h' := cMo (wWr (wSpt (wPm (wPa M r.2.2.2) r.1) r.2.1) r.2.2.1)) (P := True) rfl trivial ?_
  refine gW_b D_Mo_addAll 19 3 (pc' := 42) (l' := [(0, .ref 0)]) (st' := [.int 2]) (h' := cMo (wWr (wSpt (wPm (wPa (wTh M 2) r.2.2.2) r.1) r.2.1) r.2.2.1)) (P := True) rfl trivial ?_
  refine gW_if_le (gdec_at D_Mo_addAll 22 rfl) (tgt := 47) rfl (fun cq => absurd cq (by decide)) (fun _ => ?_)
  refine gW_b D_Mo_addAll 23 1 (pc' := 46) (l' := [(0, .ref 0)]) (st' := [.int 0]) (h' := cMo (wWr (wSpt (wPm (wPa (wTh M 2) r.2.2.2) r.1) r.2.1) r.2.2.1)) (P := True) rfl trivial ?_
  exact gW_iret (gdec_at D_Mo_addAll 24 rfl) rfl rfl (Nat.le_of_ble_eq_true rfl) ⟨rfl, rfl⟩ (Nat.le_of_ble_eq_true rfl) (Nat.le_of_ble_eq_true rfl)
theorem n_append (M : gMo) (x : Int32) (h1 : ¬ x < 33) (h2 : ¬ 126 < x) (hl : mTy M < 60) : gM K_Mo_append { frames := 1, locals := 22, cells := 0, slots := 0 } [.ref 0, .int x] (cMo M) (gD (.inl (some (.int (nI (mTy M + 1))))) (cMo (wTy (wBf (wTh M 0) (upd (mBf M) (mTy M) x)) (mTy M + 1)))) := by
  refine gM_of rfl rfl (Nat.le_of_ble_eq_true rfl) (fun sc => ?_)
  refine gW_b D_Mo_append 0 4 (pc' := 6) (l' := [(0, .ref 0), (1, .int x)]) (st' := [.int 126, .int 33, .int x, .ref 0]) (h' := cMo M) (P := True) rfl trivial ?_
  refine gW_callS (n_in_t x 33 126 h1 h2) lk_Mo_32 [] (gdec_at D_Mo_append 4 rfl) (st := [.ref 0]) rfl rfl ⟨rfl, rfl⟩ (Nat.le_of_ble_eq_true rfl) (Nat.le_of_ble_eq_true rfl) ⟨Nat.le_of_ble_eq_true rfl, Nat.le_of_ble_eq_true rfl⟩ ⟨Nat.le_of_ble_eq_true rfl, Nat.le_of_ble_eq_true rfl⟩ (gAft_r rfl rfl (h' := cMo M) (st' := [.int 1, .ref 0]) (pc' := 9) (cs' := 0) (ss' := 0) rfl rfl rfl rfl rfl ?_)
  refine gW_if_ne (gdec_at D_Mo_append 5 rfl) (tgt := 16) rfl (fun _ => ?_) (fun cq => absurd cq (by decide))
  refine gW_b D_Mo_append 8 3 (pc' := 22) (l' := [(0, .ref 0), (1, .int x)]) (st' := [.int 60, .int (nI (mTy M)), .ref 0]) (h' := cMo M) (P := True) rfl trivial ?_
  refine gW_ic_ne (gdec_at D_Mo_append 11 rfl) (tgt := 29) rfl (fun _ => ?_) (fun cq => absurd cq (mt (geq (rfl : nI (mTy M) = nI (mTy M)) (gk 60) (by omega) (by omega)).mp (by omega)))
  refine gW_b D_Mo_append 14 4 (pc' := 37) (l' := [(0, .ref 0), (1, .int x)]) (st' := [.int 0]) (h' := cMo (wTh M 0)) (P := True) rfl trivial ?_
  refine gW_if_le (gdec_at D_Mo_append 18 rfl) (tgt := 42) rfl (fun _ => ?_) (fun cq => absurd (by decide) cq)
  refine gW_b D_Mo_append 21 14 (pc' := 66) (l' := [(0, .ref 0), (1, .int x)]) (st' := [.int ((nI (mTy M)) + 1)]) (h' := [cO 6 [.int 0, .ref 1, .ref 2, .int (nI (mN M)), .ref 3, .ref 4, .int ((nI (mTy M)) + 1), .ref 5, .int (nI (mSt M)), .ref 6, .int (nI (mPm M)), .int (nI (mSpt M)), .int (mWr M), .long (mHs M)], cI 103 (zD (mD M)), cI 618 (svF (mDs M)), cI 103 (zD (mSp M)), cI 60 (upd (mBf M) ((nI (mTy M)).toNatClampNeg) x), cI 10 (oF (mOd M)), cI 39 (mPa M)]) (P := vp_in (nI (mTy M)) 60 ∧ True) rfl ⟨(gvin (rfl : nI (mTy M) = nI (mTy M)) (by omega) (by omega)), trivial⟩ ?_
  rw [show (nI (mTy M)).toNatClampNeg = (mTy M) from gclp (rfl : nI (mTy M) = nI (mTy M)) (by omega)]
  rw [show ((nI (mTy M)) + 1 : Int32) = nI ((mTy M) + 1) from (gadd (rfl : nI (mTy M) = nI (mTy M)) (gk 1))]
  exact gW_iret (gdec_at D_Mo_append 35 rfl) rfl rfl (Nat.le_of_ble_eq_true rfl) ⟨rfl, rfl⟩ (Nat.le_of_ble_eq_true rfl) (Nat.le_of_ble_eq_true rfl)
theorem n_append_x1 (M : gMo) (x : Int32) (h : x < 33 ∨ 126 < x) : gM K_Mo_append { frames := 1, locals := 22, cells := 0, slots := 0 } [.ref 0, .int x] (cMo M) (gD (.inl (some (.int 0))) (cMo (wTh M 1))) := by
  refine gM_of rfl rfl (Nat.le_of_ble_eq_true rfl) (fun sc => ?_)
  refine gW_b D_Mo_append 0 4 (pc' := 6) (l' := [(0, .ref 0), (1, .int x)]) (st' := [.int 126, .int 33, .int x, .ref 0]) (h' := cMo M) (P := True) rfl trivial ?_
  refine gW_callS (n_in_f x 33 126 h) lk_Mo_32 [] (gdec_at D_Mo_append 4 rfl) (st := [.ref 0]) rfl rfl ⟨rfl, rfl⟩ (Nat.le_of_ble_eq_true rfl) (Nat.le_of_ble_eq_true rfl) ⟨Nat.le_of_ble_eq_true rfl, Nat.le_of_ble_eq_true rfl⟩ ⟨Nat.le_of_ble_eq_true rfl, Nat.le_of_ble_eq_true rfl⟩ (gAft_r rfl rfl (h' := cMo M) (st' := [.int 0, .ref 0]) (pc' := 9) (cs' := 0) (ss' := 0) rfl rfl rfl rfl rfl ?_)
  refine gW_if_ne (gdec_at D_Mo_append 5 rfl) (tgt := 16) rfl (fun cq => absurd (by decide) cq) (fun _ => ?_)
  refine gW_b D_Mo_append 6 2 (pc' := 30) (l' := [(0, .ref 0), (1, .int x)]) (st' := [.int 1, .ref 0]) (h' := cMo M) (P := True) rfl trivial ?_
  refine gW_b D_Mo_append 15 3 (pc' := 37) (l' := [(0, .ref 0), (1, .int x)]) (st' := [.int 1]) (h' := cMo (wTh M 1)) (P := True) rfl trivial ?_
  refine gW_if_le (gdec_at D_Mo_append 18 rfl) (tgt := 42) rfl (fun cq => absurd cq (by decide)) (fun _ => ?_)
  refine gW_b D_Mo_append 19 1 (pc' := 41) (l' := [(0, .ref 0), (1, .int x)]) (st' := [.int 0]) (h' := cMo (wTh M 1)) (P := True) rfl trivial ?_
  exact gW_iret (gdec_at D_Mo_append 20 rfl) rfl rfl (Nat.le_of_ble_eq_true rfl) ⟨rfl, rfl⟩ (Nat.le_of_ble_eq_true rfl) (Nat.le_of_ble_eq_true rfl)
theorem n_append_x2 (M : gMo) (x : Int32) (h1 : ¬ x < 33) (h2 : ¬ 126 < x) (hl : mTy M = 60) : gM K_Mo_append { frames := 1, locals := 22, cells := 0, slots := 0 } [.ref 0, .int x] (cMo M) (gD (.inl (some (.int 0))) (cMo (wTh M 2))) := by
  refine gM_of rfl rfl (Nat.le_of_ble_eq_true rfl) (fun sc => ?_)
  refine gW_b D_Mo_append 0 4 (pc' := 6) (l' := [(0, .ref 0), (1, .int x)]) (st' := [.int 126, .int 33, .int x, .ref 0]) (h' := cMo M) (P := True) rfl trivial ?_
  refine gW_callS (n_in_t x 33 126 h1 h2) lk_Mo_32 [] (gdec_at D_Mo_append 4 rfl) (st := [.ref 0]) rfl rfl ⟨rfl, rfl⟩ (Nat.le_of_ble_eq_true rfl) (Nat.le_of_ble_eq_true rfl) ⟨Nat.le_of_ble_eq_true rfl, Nat.le_of_ble_eq_true rfl⟩ ⟨Nat.le_of_ble_eq_true rfl, Nat.le_of_ble_eq_true rfl⟩ (gAft_r rfl rfl (h' := cMo M) (st' := [.int 1, .ref 0]) (pc' := 9) (cs' := 0) (ss' := 0) rfl rfl rfl rfl rfl ?_)
  refine gW_if_ne (gdec_at D_Mo_append 5 rfl) (tgt := 16) rfl (fun _ => ?_) (fun cq => absurd cq (by decide))
  refine gW_b D_Mo_append 8 3 (pc' := 22) (l' := [(0, .ref 0), (1, .int x)]) (st' := [.int 60, .int (nI (mTy M)), .ref 0]) (h' := cMo M) (P := True) rfl trivial ?_
  refine gW_ic_ne (gdec_at D_Mo_append 11 rfl) (tgt := 29) rfl (fun cq => absurd ((geq (rfl : nI (mTy M) = nI (mTy M)) (gk 60) (by omega) (by omega)).mpr (by omega)) cq) (fun _ => ?_)
  refine gW_b D_Mo_append 12 2 (pc' := 30) (l' := [(0, .ref 0), (1, .int x)]) (st' := [.int 2, .ref 0]) (h' := cMo M) (P := True) rfl trivial ?_
  refine gW_b D_Mo_append 15 3 (pc' := 37) (l' := [(0, .ref 0), (1, .int x)]) (st' := [.int 2]) (h' := cMo (wTh M 2)) (P := True) rfl trivial ?_
  refine gW_if_le (gdec_at D_Mo_append 18 rfl) (tgt := 42) rfl (fun cq => absurd cq (by decide)) (fun _ => ?_)
  refine gW_b D_Mo_append 19 1 (pc' := 41) (l' := [(0, .ref 0), (1, .int x)]) (st' := [.int 0]) (h' := cMo (wTh M 2)) (P := True) rfl trivial ?_
  exact gW_iret (gdec_at D_Mo_append 20 rfl) rfl rfl (Nat.le_of_ble_eq_true rfl) ⟨rfl, rfl⟩ (Nat.le_of_ble_eq_true rfl) (Nat.le_of_ble_eq_true rfl)
theorem n_clearBuffer (M : gMo)  : gM K_Mo_clearBuffer { frames := 0, locals := 0, cells := 0, slots := 0 } [.ref 0] (cMo M) (gD (.inl (some (.int (nI (mTy M))))) (cMo (wTy (wTh M 0) 0))) := by
  refine gM_of rfl rfl (Nat.le_of_ble_eq_true rfl) (fun sc => ?_)
  refine gW_b D_Mo_clearBuffer 0 10 (pc' := 16) (l' := [(0, .ref 0), (1, .int (nI (mTy M)))]) (st' := [.int (nI (mTy M))]) (h' := cMo (wTy (wTh M 0) 0)) (P := True) rfl trivial ?_
  exact gW_iret (gdec_at D_Mo_clearBuffer 10 rfl) rfl rfl (Nat.le_of_ble_eq_true rfl) ⟨rfl, rfl⟩ (Nat.le_of_ble_eq_true rfl) (Nat.le_of_ble_eq_true rfl)
