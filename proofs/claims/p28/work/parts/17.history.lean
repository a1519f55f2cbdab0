/-! GoldSheets$History. Printed by wip/whole/meths5.py -/
/-- the saved row, r times turned -/
def rot (b r : Nat) : List (Option Nat) := match r with
  | 0 => [some (b + 2), some (b + 12), some (b + 22), some (b + 32), some (b + 42), some (b + 52)]
  | 1 => [some (b + 12), some (b + 22), some (b + 32), some (b + 42), some (b + 52), some (b + 2)]
  | 2 => [some (b + 22), some (b + 32), some (b + 42), some (b + 52), some (b + 2), some (b + 12)]
  | 3 => [some (b + 32), some (b + 42), some (b + 52), some (b + 2), some (b + 12), some (b + 22)]
  | 4 => [some (b + 42), some (b + 52), some (b + 2), some (b + 12), some (b + 22), some (b + 32)]
  | _ => [some (b + 52), some (b + 2), some (b + 12), some (b + 22), some (b + 32), some (b + 42)]
theorem rot_len (b r : Nat) : (rot b r).length = 6 := by
  unfold rot
  split <;> rfl
abbrev cHb (b : Nat) (Ds : Nat → gDom) (t : gH) : gH := cDo (b + 2) (Ds 0) ++ (cDo (b + 12) (Ds 1) ++ (cDo (b + 22) (Ds 2) ++ (cDo (b + 32) (Ds 3) ++ (cDo (b + 42) (Ds 4) ++ (cDo (b + 52) (Ds 5) ++ t)))))
abbrev cHs (b r n : Nat) (Ds : Nat → gDom) (t : gH) : gH := cO 3 [.ref (b + 1), .int (nI n)] :: cR (rot b r) :: cHb b Ds t
def updD (Ds : Nat → gDom) (k : Nat) (D : gDom) : Nat → gDom := fun j => if j = k then D else Ds j
def svR (r n : Nat) : Nat := if n < 6 then r else (r + 1) % 6
def svN (n : Nat) : Nat := if n < 6 then n + 1 else 6
def svK (r n : Nat) : Nat := if n < 6 then (n + r) % 6 else r
theorem rot_get {r i : Nat} (hr : r < 6) (hi : i < 6) : (rot 0 r).getD i none = some (2 + 10 * ((i + r) % 6)) := by
  rcases (show r = 0 ∨ r = 1 ∨ r = 2 ∨ r = 3 ∨ r = 4 ∨ r = 5 by omega) with rfl | rfl | rfl | rfl | rfl | rfl <;> (rcases (show i = 0 ∨ i = 1 ∨ i = 2 ∨ i = 3 ∨ i = 4 ∨ i = 5 by omega) with rfl | rfl | rfl | rfl | rfl | rfl <;> rfl)
theorem gren62 {n k : Nat} (hk : k < 62) : gren (gps 0 62 0 0) n k = k := gren_at (by
  show (List.range' 0 62 ++ [])[k]? = some k
  rw [List.append_nil, List.getElem?_range' hk]
  simp) (by omega)
theorem gwv62 (k : Nat) {n : Nat} (h : k < n) : gwv n (.ref k) = true := by
  show (Nat.blt k n || Nat.ble 1000 k) = true
  rw [show Nat.blt k n = true from Nat.ble_eq_true_of_le h]
  rfl
theorem gmv62 {k n : Nat} (h : k < 62) : gmv (gren (gps 0 62 0 0) n) (.ref k) = .ref k := by
  show Value.ref (gren (gps 0 62 0 0) n k) = .ref k
  rw [gren62 h]
theorem nd62 : va_nd (gps 0 62 0 0) = true := by decide +kernel
set_option maxRecDepth 20000 in
theorem cut62 (r n : Nat) (Ds : Nat → gDom) (D : gDom) (hr : r < 6) : gCut (cHs 0 r n Ds (cDo 62 D)) (cHs 0 r n Ds []) (gps 0 62 0 0) := by
  refine gCut_seg (Nat.le_of_ble_eq_true rfl) (Nat.le_of_ble_eq_true rfl) ?_ nd62
  rcases (show r = 0 ∨ r = 1 ∨ r = 2 ∨ r = 3 ∨ r = 4 ∨ r = 5 by omega) with rfl | rfl | rfl | rfl | rfl | rfl <;> rfl
set_option maxRecDepth 20000 in
theorem mrg62 (r n r' n' : Nat) (Ds : Nat → gDom) (D : gDom) (hr : r' < 6) : gseg2 (cHs 0 r n Ds (cDo 62 D)) 0 62 0 0 ((cHs 0 r' n' Ds []).map (gre (gren (gps 0 62 0 0) (cHs 0 r n Ds (cDo 62 D)).length))) = cHs 0 r' n' Ds (cDo 62 D) := by
  rcases (show r' = 0 ∨ r' = 1 ∨ r' = 2 ∨ r' = 3 ∨ r' = 4 ∨ r' = 5 by omega) with rfl | rfl | rfl | rfl | rfl | rfl <;> rfl
set_option maxRecDepth 20000 in
theorem wf62 (r n : Nat) (Ds : Nat → gDom) (hr : r < 6) : (cHs 0 r n Ds []).all (gwf (cHs 0 r n Ds []).length) = true := by
  rcases (show r = 0 ∨ r = 1 ∨ r = 2 ∨ r = 3 ∨ r = 4 ∨ r = 5 by omega) with rfl | rfl | rfl | rfl | rfl | rfl <;> rfl
set_option maxRecDepth 20000 in
theorem m_slotAt (r i n : Nat) (Ds : Nat → gDom) (hr : r < 6) (hi : i < 6) : gM K_Hi_slotAt { frames := 0, locals := 0, cells := 0, slots := 0 } [.ref 0, .int (nI i)] (cHs 0 r n Ds []) (gD (.inl (some (.ref (2 + 10 * ((i + r) % 6))))) (cHs 0 r n Ds [])) := by
  refine gM_of rfl rfl (Nat.le_of_ble_eq_true rfl) (fun sc => ?_)
  refine gW_b D_Hi_slotAt 0 1 (pc' := 1) (l' := [(0, .ref 0), (1, .int (nI i))]) (st' := [.int (nI i)]) (h' := cHs 0 r n Ds []) (P := True) rfl trivial ?_
  refine gW_if_lt (gdec_at D_Hi_slotAt 1 rfl) (tgt := 19) rfl (fun c => absurd c (nI_pos (n := i) (by omega))) (fun _ => ?_)
  refine gW_b D_Hi_slotAt 2 2 (pc' := 7) (l' := [(0, .ref 0), (1, .int (nI i))]) (st' := [.int 6, .int (nI i)]) (h' := cHs 0 r n Ds []) (P := True) rfl trivial ?_
  refine gW_ic_ge (gdec_at D_Hi_slotAt 4 rfl) (tgt := 19) rfl (fun c => absurd c (mt (gle (gk 6) (rfl : nI i = nI i) (by omega) (by omega)).mp (by omega))) (fun _ => ?_)
  refine gW_b D_Hi_slotAt 5 4 (pc' := 16) (l' := [(0, .ref 0), (1, .int (nI i))]) (st' := [va_rf ((rot 0 r).getD (nI i).toNatClampNeg none)]) (h' := cHs 0 r n Ds []) (P := vp_in (nI i) (rot 0 r).length ∧ True) rfl ⟨gvin (rfl : nI i = nI i) (by rw [rot_len]; omega) (by rw [rot_len]; decide), trivial⟩ ?_
  rw [show (nI i).toNatClampNeg = i from gclp rfl (by omega), rot_get hr hi]
  refine gW_b D_Hi_slotAt 9 1 (pc' := 20) (l' := [(0, .ref 0), (1, .int (nI i))]) (st' := [.ref (2 + 10 * ((i + r) % 6))]) (h' := cHs 0 r n Ds []) (P := True) rfl trivial ?_
  exact gW_aret (gdec_at D_Hi_slotAt 11 rfl) rfl (Nat.le_of_ble_eq_true rfl) ⟨rfl, rfl⟩ (Nat.le_of_ble_eq_true rfl) (Nat.le_of_ble_eq_true rfl)
set_option maxRecDepth 20000 in

theorem m_dropOldest_0 (Ds : Nat → gDom) : gM K_Hi_dropOldest { frames := 0, locals := 0, cells := 0, slots := 0 } [.ref 0] (cO 3 [.ref 1, .int 6] :: cR [some 2, some 12, some 22, some 32, some 42, some 52] :: cHb 0 Ds []) (gD (.inl none) (cO 3 [.ref 1, .int 5] :: cR [some 12, some 22, some 32, some 42, some 52, some 2] :: cHb 0 Ds [])) := by
  refine gM_of rfl rfl (Nat.le_of_ble_eq_true rfl) (fun sc => ?_)
  refine gW_b D_Hi_dropOldest 0 9 (pc' := 12) (l' := [(0, .ref 0), (1, .ref 2), (2, .int 1)]) (st' := [.int 6, .int 1]) (h' := cO 3 [.ref 1, .int 6] :: cR [some 2, some 12, some 22, some 32, some 42, some 52] :: cHb 0 Ds []) (P := vp_in 0 6 ∧ True) rfl ⟨(gvl 0 6 (by omega) (by omega)), trivial⟩ ?_
  refine gW_ic_ge (gdec_at D_Hi_dropOldest 9 rfl) (tgt := 35) rfl (fun cq => absurd cq (by decide)) (fun _ => ?_)
  refine gW_b D_Hi_dropOldest 10 12 (pc' := 9) (l' := [(0, .ref 0), (1, .ref 2), (2, .int 2)]) (st' := []) (h' := cO 3 [.ref 1, .int 6] :: cR [some 12, some 12, some 22, some 32, some 42, some 52] :: cHb 0 Ds []) (P := vp_in 1 6 ∧ vp_in 0 6 ∧ True) rfl ⟨(gvl 1 6 (by omega) (by omega)), (gvl 0 6 (by omega) (by omega)), trivial⟩ ?_
  refine gW_b D_Hi_dropOldest 7 2 (pc' := 12) (l' := [(0, .ref 0), (1, .ref 2), (2, .int 2)]) (st' := [.int 6, .int 2]) (h' := cO 3 [.ref 1, .int 6] :: cR [some 12, some 12, some 22, some 32, some 42, some 52] :: cHb 0 Ds []) (P := True) rfl trivial ?_
  refine gW_ic_ge (gdec_at D_Hi_dropOldest 9 rfl) (tgt := 35) rfl (fun cq => absurd cq (by decide)) (fun _ => ?_)
  refine gW_b D_Hi_dropOldest 10 12 (pc' := 9) (l' := [(0, .ref 0), (1, .ref 2), (2, .int 3)]) (st' := []) (h' := cO 3 [.ref 1, .int 6] :: cR [some 12, some 22, some 22, some 32, some 42, some 52] :: cHb 0 Ds []) (P := vp_in 2 6 ∧ vp_in 1 6 ∧ True) rfl ⟨(gvl 2 6 (by omega) (by omega)), (gvl 1 6 (by omega) (by omega)), trivial⟩ ?_
  refine gW_b D_Hi_dropOldest 7 2 (pc' := 12) (l' := [(0, .ref 0), (1, .ref 2), (2, .int 3)]) (st' := [.int 6, .int 3]) (h' := cO 3 [.ref 1, .int 6] :: cR [some 12, some 22, some 22, some 32, some 42, some 52] :: cHb 0 Ds []) (P := True) rfl trivial ?_
  refine gW_ic_ge (gdec_at D_Hi_dropOldest 9 rfl) (tgt := 35) rfl (fun cq => absurd cq (by decide)) (fun _ => ?_)
  refine gW_b D_Hi_dropOldest 10 12 (pc' := 9) (l' := [(0, .ref 0), (1, .ref 2), (2, .int 4)]) (st' := []) (h' := cO 3 [.ref 1, .int 6] :: cR [some 12, some 22, some 32, some 32, some 42, some 52] :: cHb 0 Ds []) (P := vp_in 3 6 ∧ vp_in 2 6 ∧ True) rfl ⟨(gvl 3 6 (by omega) (by omega)), (gvl 2 6 (by omega) (by omega)), trivial⟩ ?_
  refine gW_b D_Hi_dropOldest 7 2 (pc' := 12) (l' := [(0, .ref 0), (1, .ref 2), (2, .int 4)]) (st' := [.int 6, .int 4]) (h' := cO 3 [.ref 1, .int 6] :: cR [some 12, some 22, some 32, some 32, some 42, some 52] :: cHb 0 Ds []) (P := True) rfl trivial ?_
  refine gW_ic_ge (gdec_at D_Hi_dropOldest 9 rfl) (tgt := 35) rfl (fun cq => absurd cq (by decide)) (fun _ => ?_)
  refine gW_b D_Hi_dropOldest 10 12 (pc' := 9) (l' := [(0, .ref 0), (1, .ref 2), (2, .int 5)]) (st' := []) (h' := cO 3 [.ref 1, .int 6] :: cR [some 12, some 22, some 32, some 42, some 42, some 52] :: cHb 0 Ds []) (P := vp_in 4 6 ∧ vp_in 3 6 ∧ True) rfl ⟨(gvl 4 6 (by omega) (by omega)), (gvl 3 6 (by omega) (by omega)), trivial⟩ ?_
  refine gW_b D_Hi_dropOldest 7 2 (pc' := 12) (l' := [(0, .ref 0), (1, .ref 2), (2, .int 5)]) (st' := [.int 6, .int 5]) (h' := cO 3 [.ref 1, .int 6] :: cR [some 12, some 22, some 32, some 42, some 42, some 52] :: cHb 0 Ds []) (P := True) rfl trivial ?_
  refine gW_ic_ge (gdec_at D_Hi_dropOldest 9 rfl) (tgt := 35) rfl (fun cq => absurd cq (by decide)) (fun _ => ?_)
  refine gW_b D_Hi_dropOldest 10 12 (pc' := 9) (l' := [(0, .ref 0), (1, .ref 2), (2, .int 6)]) (st' := []) (h' := cO 3 [.ref 1, .int 6] :: cR [some 12, some 22, some 32, some 42, some 52, some 52] :: cHb 0 Ds []) (P := vp_in 5 6 ∧ vp_in 4 6 ∧ True) rfl ⟨(gvl 5 6 (by omega) (by omega)), (gvl 4 6 (by omega) (by omega)), trivial⟩ ?_
  refine gW_b D_Hi_dropOldest 7 2 (pc' := 12) (l' := [(0, .ref 0), (1, .ref 2), (2, .int 6)]) (st' := [.int 6, .int 6]) (h' := cO 3 [.ref 1, .int 6] :: cR [some 12, some 22, some 32, some 42, some 52, some 52] :: cHb 0 Ds []) (P := True) rfl trivial ?_
  refine gW_ic_ge (gdec_at D_Hi_dropOldest 9 rfl) (tgt := 35) rfl (fun _ => ?_) (fun cq => absurd (by decide) cq)
  refine gW_b D_Hi_dropOldest 22 11 (pc' := 52) (l' := [(0, .ref 0), (1, .ref 2), (2, .int 6)]) (st' := []) (h' := cO 3 [.ref 1, .int 5] :: cR [some 12, some 22, some 32, some 42, some 52, some 2] :: cHb 0 Ds []) (P := vp_in 5 6 ∧ True) rfl ⟨(gvl 5 6 (by omega) (by omega)), trivial⟩ ?_
  exact gW_vret (gdec_at D_Hi_dropOldest 33 rfl) rfl (Nat.le_of_ble_eq_true rfl) ⟨rfl, rfl⟩ (Nat.le_of_ble_eq_true rfl) (Nat.le_of_ble_eq_true rfl)
set_option maxRecDepth 20000 in

theorem m_dropOldest_1 (Ds : Nat → gDom) : gM K_Hi_dropOldest { frames := 0, locals := 0, cells := 0, slots := 0 } [.ref 0] (cO 3 [.ref 1, .int 6] :: cR [some 12, some 22, some 32, some 42, some 52, some 2] :: cHb 0 Ds []) (gD (.inl none) (cO 3 [.ref 1, .int 5] :: cR [some 22, some 32, some 42, some 52, some 2, some 12] :: cHb 0 Ds [])) := by
  refine gM_of rfl rfl (Nat.le_of_ble_eq_true rfl) (fun sc => ?_)
  refine gW_b D_Hi_dropOldest 0 9 (pc' := 12) (l' := [(0, .ref 0), (1, .ref 12), (2, .int 1)]) (st' := [.int 6, .int 1]) (h' := cO 3 [.ref 1, .int 6] :: cR [some 12, some 22, some 32, some 42, some 52, some 2] :: cHb 0 Ds []) (P := vp_in 0 6 ∧ True) rfl ⟨(gvl 0 6 (by omega) (by omega)), trivial⟩ ?_
  refine gW_ic_ge (gdec_at D_Hi_dropOldest 9 rfl) (tgt := 35) rfl (fun cq => absurd cq (by decide)) (fun _ => ?_)
  refine gW_b D_Hi_dropOldest 10 12 (pc' := 9) (l' := [(0, .ref 0), (1, .ref 12), (2, .int 2)]) (st' := []) (h' := cO 3 [.ref 1, .int 6] :: cR [some 22, some 22, some 32, some 42, some 52, some 2] :: cHb 0 Ds []) (P := vp_in 1 6 ∧ vp_in 0 6 ∧ True) rfl ⟨(gvl 1 6 (by omega) (by omega)), (gvl 0 6 (by omega) (by omega)), trivial⟩ ?_
  refine gW_b D_Hi_dropOldest 7 2 (pc' := 12) (l' := [(0, .ref 0), (1, .ref 12), (2, .int 2)]) (st' := [.int 6, .int 2]) (h' := cO 3 [.ref 1, .int 6] :: cR [some 22, some 22, some 32, some 42, some 52, some 2] :: cHb 0 Ds []) (P := True) rfl trivial ?_
  refine gW_ic_ge (gdec_at D_Hi_dropOldest 9 rfl) (tgt := 35) rfl (fun cq => absurd cq (by decide)) (fun _ => ?_)
  refine gW_b D_Hi_dropOldest 10 12 (pc' := 9) (l' := [(0, .ref 0), (1, .ref 12), (2, .int 3)]) (st' := []) (h' := cO 3 [.ref 1, .int 6] :: cR [some 22, some 32, some 32, some 42, some 52, some 2] :: cHb 0 Ds []) (P := vp_in 2 6 ∧ vp_in 1 6 ∧ True) rfl ⟨(gvl 2 6 (by omega) (by omega)), (gvl 1 6 (by omega) (by omega)), trivial⟩ ?_
  refine gW_b D_Hi_dropOldest 7 2 (pc' := 12) (l' := [(0, .ref 0), (1, .ref 12), (2, .int 3)]) (st' := [.int 6, .int 3]) (h' := cO 3 [.ref 1, .int 6] :: cR [some 22, some 32, some 32, some 42, some 52, some 2] :: cHb 0 Ds []) (P := True) rfl trivial ?_
  refine gW_ic_ge (gdec_at D_Hi_dropOldest 9 rfl) (tgt := 35) rfl (fun cq => absurd cq (by decide)) (fun _ => ?_)
  refine gW_b D_Hi_dropOldest 10 12 (pc' := 9) (l' := [(0, .ref 0), (1, .ref 12), (2, .int 4)]) (st' := []) (h' := cO 3 [.ref 1, .int 6] :: cR [some 22, some 32, some 42, some 42, some 52, some 2] :: cHb 0 Ds []) (P := vp_in 3 6 ∧ vp_in 2 6 ∧ True) rfl ⟨(gvl 3 6 (by omega) (by omega)), (gvl 2 6 (by omega) (by omega)), trivial⟩ ?_
  refine gW_b D_Hi_dropOldest 7 2 (pc' := 12) (l' := [(0, .ref 0), (1, .ref 12), (2, .int 4)]) (st' := [.int 6, .int 4]) (h' := cO 3 [.ref 1, .int 6] :: cR [some 22, some 32, some 42, some 42, some 52, some 2] :: cHb 0 Ds []) (P := True) rfl trivial ?_
  refine gW_ic_ge (gdec_at D_Hi_dropOldest 9 rfl) (tgt := 35) rfl (fun cq => absurd cq (by decide)) (fun _ => ?_)
  refine gW_b D_Hi_dropOldest 10 12 (pc' := 9) (l' := [(0, .ref 0), (1, .ref 12), (2, .int 5)]) (st' := []) (h' := cO 3 [.ref 1, .int 6] :: cR [some 22, some 32, some 42, some 52, some 52, some 2] :: cHb 0 Ds []) (P := vp_in 4 6 ∧ vp_in 3 6 ∧ True) rfl ⟨(gvl 4 6 (by omega) (by omega)), (gvl 3 6 (by omega) (by omega)), trivial⟩ ?_
  refine gW_b D_Hi_dropOldest 7 2 (pc' := 12) (l' := [(0, .ref 0), (1, .ref 12), (2, .int 5)]) (st' := [.int 6, .int 5]) (h' := cO 3 [.ref 1, .int 6] :: cR [some 22, some 32, some 42, some 52, some 52, some 2] :: cHb 0 Ds []) (P := True) rfl trivial ?_
  refine gW_ic_ge (gdec_at D_Hi_dropOldest 9 rfl) (tgt := 35) rfl (fun cq => absurd cq (by decide)) (fun _ => ?_)
  refine gW_b D_Hi_dropOldest 10 12 (pc' := 9) (l' := [(0, .ref 0), (1, .ref 12), (2, .int 6)]) (st' := []) (h' := cO 3 [.ref 1, .int 6] :: cR [some 22, some 32, some 42, some 52, some 2, some 2] :: cHb 0 Ds []) (P := vp_in 5 6 ∧ vp_in 4 6 ∧ True) rfl ⟨(gvl 5 6 (by omega) (by omega)), (gvl 4 6 (by omega) (by omega)), trivial⟩ ?_
  refine gW_b D_Hi_dropOldest 7 2 (pc' := 12) (l' := [(0, .ref 0), (1, .ref 12), (2, .int 6)]) (st' := [.int 6, .int 6]) (h' := cO 3 [.ref 1, .int 6] :: cR [some 22, some 32, some 42, some 52, some 2, some 2] :: cHb 0 Ds []) (P := True) rfl trivial ?_
  refine gW_ic_ge (gdec_at D_Hi_dropOldest 9 rfl) (tgt := 35) rfl (fun _ => ?_) (fun cq => absurd (by decide) cq)
  refine gW_b D_Hi_dropOldest 22 11 (pc' := 52) (l' := [(0, .ref 0), (1, .ref 12), (2, .int 6)]) (st' := []) (h' := cO 3 [.ref 1, .int 5] :: cR [some 22, some 32, some 42, some 52, some 2, some 12] :: cHb 0 Ds []) (P := vp_in 5 6 ∧ True) rfl ⟨(gvl 5 6 (by omega) (by omega)), trivial⟩ ?_
  exact gW_vret (gdec_at D_Hi_dropOldest 33 rfl) rfl (Nat.le_of_ble_eq_true rfl) ⟨rfl, rfl⟩ (Nat.le_of_ble_eq_true rfl) (Nat.le_of_ble_eq_true rfl)
set_option maxRecDepth 20000 in

theorem m_dropOldest_2 (Ds : Nat → gDom) : gM K_Hi_dropOldest { frames := 0, locals := 0, cells := 0, slots := 0 } [.ref 0] (cO 3 [.ref 1, .int 6] :: cR [some 22, some 32, some 42, some 52, some 2, some 12] :: cHb 0 Ds []) (gD (.inl none) (cO 3 [.ref 1, .int 5] :: cR [some 32, some 42, some 52, some 2, some 12, some 22] :: cHb 0 Ds [])) := by
  refine gM_of rfl rfl (Nat.le_of_ble_eq_true rfl) (fun sc => ?_)
  refine gW_b D_Hi_dropOldest 0 9 (pc' := 12) (l' := [(0, .ref 0), (1, .ref 22), (2, .int 1)]) (st' := [.int 6, .int 1]) (h' := cO 3 [.ref 1, .int 6] :: cR [some 22, some 32, some 42, some 52, some 2, some 12] :: cHb 0 Ds []) (P := vp_in 0 6 ∧ True) rfl ⟨(gvl 0 6 (by omega) (by omega)), trivial⟩ ?_
  refine gW_ic_ge (gdec_at D_Hi_dropOldest 9 rfl) (tgt := 35) rfl (fun cq => absurd cq (by decide)) (fun _ => ?_)
  refine gW_b D_Hi_dropOldest 10 12 (pc' := 9) (l' := [(0, .ref 0), (1, .ref 22), (2, .int 2)]) (st' := []) (h' := cO 3 [.ref 1, .int 6] :: cR [some 32, some 32, some 42, some 52, some 2, some 12] :: cHb 0 Ds []) (P := vp_in 1 6 ∧ vp_in 0 6 ∧ True) rfl ⟨(gvl 1 6 (by omega) (by omega)), (gvl 0 6 (by omega) (by omega)), trivial⟩ ?_
  refine gW_b D_Hi_dropOldest 7 2 (pc' := 12) (l' := [(0, .ref 0), (1, .ref 22), (2, .int 2)]) (st' := [.int 6, .int 2]) (h' := cO 3 [.ref 1, .int 6] :: cR [some 32, some 32, some 42, some 52, some 2, some 12] :: cHb 0 Ds []) (P := True) rfl trivial ?_
  refine gW_ic_ge (gdec_at D_Hi_dropOldest 9 rfl) (tgt := 35) rfl (fun cq => absurd cq (by decide)) (fun _ => ?_)
  refine gW_b D_Hi_dropOldest 10 12 (pc' := 9) (l' := [(0, .ref 0), (1, .ref 22), (2, .int 3)]) (st' := []) (h' := cO 3 [.ref 1, .int 6] :: cR [some 32, some 42, some 42, some 52, some 2, some 12] :: cHb 0 Ds []) (P := vp_in 2 6 ∧ vp_in 1 6 ∧ True) rfl ⟨(gvl 2 6 (by omega) (by omega)), (gvl 1 6 (by omega) (by omega)), trivial⟩ ?_
  refine gW_b D_Hi_dropOldest 7 2 (pc' := 12) (l' := [(0, .ref 0), (1, .ref 22), (2, .int 3)]) (st' := [.int 6, .int 3]) (h' := cO 3 [.ref 1, .int 6] :: cR [some 32, some 42, some 42, some 52, some 2, some 12] :: cHb 0 Ds []) (P := True) rfl trivial ?_
  refine gW_ic_ge (gdec_at D_Hi_dropOldest 9 rfl) (tgt := 35) rfl (fun cq => absurd cq (by decide)) (fun _ => ?_)
  refine gW_b D_Hi_dropOldest 10 12 (pc' := 9) (l' := [(0, .ref 0), (1, .ref 22), (2, .int 4)]) (st' := []) (h' := cO 3 [.ref 1, .int 6] :: cR [some 32, some 42, some 52, some 52, some 2, some 12] :: cHb 0 Ds []) (P := vp_in 3 6 ∧ vp_in 2 6 ∧ True) rfl ⟨(gvl 3 6 (by omega) (by omega)), (gvl 2 6 (by omega) (by omega)), trivial⟩ ?_
  refine gW_b D_Hi_dropOldest 7 2 (pc' := 12) (l' := [(0, .ref 0), (1, .ref 22), (2, .int 4)]) (st' := [.int 6, .int 4]) (h' := cO 3 [.ref 1, .int 6] :: cR [some 32, some 42, some 52, some 52, some 2, some 12] :: cHb 0 Ds []) (P := True) rfl trivial ?_
  refine gW_ic_ge (gdec_at D_Hi_dropOldest 9 rfl) (tgt := 35) rfl (fun cq => absurd cq (by decide)) (fun _ => ?_)
  refine gW_b D_Hi_dropOldest 10 12 (pc' := 9) (l' := [(0, .ref 0), (1, .ref 22), (2, .int 5)]) (st' := []) (h' := cO 3 [.ref 1, .int 6] :: cR [some 32, some 42, some 52, some 2, some 2, some 12] :: cHb 0 Ds []) (P := vp_in 4 6 ∧ vp_in 3 6 ∧ True) rfl ⟨(gvl 4 6 (by omega) (by omega)), (gvl 3 6 (by omega) (by omega)), trivial⟩ ?_
  refine gW_b D_Hi_dropOldest 7 2 (pc' := 12) (l' := [(0, .ref 0), (1, .ref 22), (2, .int 5)]) (st' := [.int 6, .int 5]) (h' := cO 3 [.ref 1, .int 6] :: cR [some 32, some 42, some 52, some 2, some 2, some 12] :: cHb 0 Ds []) (P := True) rfl trivial ?_
  refine gW_ic_ge (gdec_at D_Hi_dropOldest 9 rfl) (tgt := 35) rfl (fun cq => absurd cq (by decide)) (fun _ => ?_)
  refine gW_b D_Hi_dropOldest 10 12 (pc' := 9) (l' := [(0, .ref 0), (1, .ref 22), (2, .int 6)]) (st' := []) (h' := cO 3 [.ref 1, .int 6] :: cR [some 32, some 42, some 52, some 2, some 12, some 12] :: cHb 0 Ds []) (P := vp_in 5 6 ∧ vp_in 4 6 ∧ True) rfl ⟨(gvl 5 6 (by omega) (by omega)), (gvl 4 6 (by omega) (by omega)), trivial⟩ ?_
  refine gW_b D_Hi_dropOldest 7 2 (pc' := 12) (l' := [(0, .ref 0), (1, .ref 22), (2, .int 6)]) (st' := [.int 6, .int 6]) (h' := cO 3 [.ref 1, .int 6] :: cR [some 32, some 42, some 52, some 2, some 12, some 12] :: cHb 0 Ds []) (P := True) rfl trivial ?_
  refine gW_ic_ge (gdec_at D_Hi_dropOldest 9 rfl) (tgt := 35) rfl (fun _ => ?_) (fun cq => absurd (by decide) cq)
  refine gW_b D_Hi_dropOldest 22 11 (pc' := 52) (l' := [(0, .ref 0), (1, .ref 22), (2, .int 6)]) (st' := []) (h' := cO 3 [.ref 1, .int 5] :: cR [some 32, some 42, some 52, some 2, some 12, some 22] :: cHb 0 Ds []) (P := vp_in 5 6 ∧ True) rfl ⟨(gvl 5 6 (by omega) (by omega)), trivial⟩ ?_
  exact gW_vret (gdec_at D_Hi_dropOldest 33 rfl) rfl (Nat.le_of_ble_eq_true rfl) ⟨rfl, rfl⟩ (Nat.le_of_ble_eq_true rfl) (Nat.le_of_ble_eq_true rfl)
set_option maxRecDepth 20000 in

theorem m_dropOldest_3 (Ds : Nat → gDom) : gM K_Hi_dropOldest { frames := 0, locals := 0, cells := 0, slots := 0 } [.ref 0] (cO 3 [.ref 1, .int 6] :: cR [some 32, some 42, some 52, some 2, some 12, some 22] :: cHb 0 Ds []) (gD (.inl none) (cO 3 [.ref 1, .int 5] :: cR [some 42, some 52, some 2, some 12, some 22, some 32] :: cHb 0 Ds [])) := by
  refine gM_of rfl rfl (Nat.le_of_ble_eq_true rfl) (fun sc => ?_)
  refine gW_b D_Hi_dropOldest 0 9 (pc' := 12) (l' := [(0, .ref 0), (1, .ref 32), (2, .int 1)]) (st' := [.int 6, .int 1]) (h' := cO 3 [.ref 1, .int 6] :: cR [some 32, some 42, some 52, some 2, some 12, some 22] :: cHb 0 Ds []) (P := vp_in 0 6 ∧ True) rfl ⟨(gvl 0 6 (by omega) (by omega)), trivial⟩ ?_
  refine gW_ic_ge (gdec_at D_Hi_dropOldest 9 rfl) (tgt := 35) rfl (fun cq => absurd cq (by decide)) (fun _ => ?_)
  refine gW_b D_Hi_dropOldest 10 12 (pc' := 9) (l' := [(0, .ref 0), (1, .ref 32), (2, .int 2)]) (st' := []) (h' := cO 3 [.ref 1, .int 6] :: cR [some 42, some 42, some 52, some 2, some 12, some 22] :: cHb 0 Ds []) (P := vp_in 1 6 ∧ vp_in 0 6 ∧ True) rfl ⟨(gvl 1 6 (by omega) (by omega)), (gvl 0 6 (by omega) (by omega)), trivial⟩ ?_
  refine gW_b D_Hi_dropOldest 7 2 (pc' := 12) (l' := [(0, .ref 0), (1, .ref 32), (2, .int 2)]) (st' := [.int 6, .int 2]) (h' := cO 3 [.ref 1, .int 6] :: cR [some 42, some 42, some 52, some 2, some 12, some 22] :: cHb 0 Ds []) (P := True) rfl trivial ?_
  refine gW_ic_ge (gdec_at D_Hi_dropOldest 9 rfl) (tgt := 35) rfl (fun cq => absurd cq (by decide)) (fun _ => ?_)
  refine gW_b D_Hi_dropOldest 10 12 (pc' := 9) (l' := [(0, .ref 0), (1, .ref 32), (2, .int 3)]) (st' := []) (h' := cO 3 [.ref 1, .int 6] :: cR [some 42, some 52, some 52, some 2, some 12, some 22] :: cHb 0 Ds []) (P := vp_in 2 6 ∧ vp_in 1 6 ∧ True) rfl ⟨(gvl 2 6 (by omega) (by omega)), (gvl 1 6 (by omega) (by omega)), trivial⟩ ?_
  refine gW_b D_Hi_dropOldest 7 2 (pc' := 12) (l' := [(0, .ref 0), (1, .ref 32), (2, .int 3)]) (st' := [.int 6, .int 3]) (h' := cO 3 [.ref 1, .int 6] :: cR [some 42, some 52, some 52, some 2, some 12, some 22] :: cHb 0 Ds []) (P := True) rfl trivial ?_
  refine gW_ic_ge (gdec_at D_Hi_dropOldest 9 rfl) (tgt := 35) rfl (fun cq => absurd cq (by decide)) (fun _ => ?_)
  refine gW_b D_Hi_dropOldest 10 12 (pc' := 9) (l' := [(0, .ref 0), (1, .ref 32), (2, .int 4)]) (st' := []) (h' := cO 3 [.ref 1, .int 6] :: cR [some 42, some 52, some 2, some 2, some 12, some 22] :: cHb 0 Ds []) (P := vp_in 3 6 ∧ vp_in 2 6 ∧ True) rfl ⟨(gvl 3 6 (by omega) (by omega)), (gvl 2 6 (by omega) (by omega)), trivial⟩ ?_
  refine gW_b D_Hi_dropOldest 7 2 (pc' := 12) (l' := [(0, .ref 0), (1, .ref 32), (2, .int 4)]) (st' := [.int 6, .int 4]) (h' := cO 3 [.ref 1, .int 6] :: cR [some 42, some 52, some 2, some 2, some 12, some 22] :: cHb 0 Ds []) (P := True) rfl trivial ?_
  refine gW_ic_ge (gdec_at D_Hi_dropOldest 9 rfl) (tgt := 35) rfl (fun cq => absurd cq (by decide)) (fun _ => ?_)
  refine gW_b D_Hi_dropOldest 10 12 (pc' := 9) (l' := [(0, .ref 0), (1, .ref 32), (2, .int 5)]) (st' := []) (h' := cO 3 [.ref 1, .int 6] :: cR [some 42, some 52, some 2, some 12, some 12, some 22] :: cHb 0 Ds []) (P := vp_in 4 6 ∧ vp_in 3 6 ∧ True) rfl ⟨(gvl 4 6 (by omega) (by omega)), (gvl 3 6 (by omega) (by omega)), trivial⟩ ?_
  refine gW_b D_Hi_dropOldest 7 2 (pc' := 12) (l' := [(0, .ref 0), (1, .ref 32), (2, .int 5)]) (st' := [.int 6, .int 5]) (h' := cO 3 [.ref 1, .int 6] :: cR [some 42, some 52, some 2, some 12, some 12, some 22] :: cHb 0 Ds []) (P := True) rfl trivial ?_
  refine gW_ic_ge (gdec_at D_Hi_dropOldest 9 rfl) (tgt := 35) rfl (fun cq => absurd cq (by decide)) (fun _ => ?_)
  refine gW_b D_Hi_dropOldest 10 12 (pc' := 9) (l' := [(0, .ref 0), (1, .ref 32), (2, .int 6)]) (st' := []) (h' := cO 3 [.ref 1, .int 6] :: cR [some 42, some 52, some 2, some 12, some 22, some 22] :: cHb 0 Ds []) (P := vp_in 5 6 ∧ vp_in 4 6 ∧ True) rfl ⟨(gvl 5 6 (by omega) (by omega)), (gvl 4 6 (by omega) (by omega)), trivial⟩ ?_
  refine gW_b D_Hi_dropOldest 7 2 (pc' := 12) (l' := [(0, .ref 0), (1, .ref 32), (2, .int 6)]) (st' := [.int 6, .int 6]) (h' := cO 3 [.ref 1, .int 6] :: cR [some 42, some 52, some 2, some 12, some 22, some 22] :: cHb 0 Ds []) (P := True) rfl trivial ?_
  refine gW_ic_ge (gdec_at D_Hi_dropOldest 9 rfl) (tgt := 35) rfl (fun _ => ?_) (fun cq => absurd (by decide) cq)
  refine gW_b D_Hi_dropOldest 22 11 (pc' := 52) (l' := [(0, .ref 0), (1, .ref 32), (2, .int 6)]) (st' := []) (h' := cO 3 [.ref 1, .int 5] :: cR [some 42, some 52, some 2, some 12, some 22, some 32] :: cHb 0 Ds []) (P := vp_in 5 6 ∧ True) rfl ⟨(gvl 5 6 (by omega) (by omega)), trivial⟩ ?_
  exact gW_vret (gdec_at D_Hi_dropOldest 33 rfl) rfl (Nat.le_of_ble_eq_true rfl) ⟨rfl, rfl⟩ (Nat.le_of_ble_eq_true rfl) (Nat.le_of_ble_eq_true rfl)
set_option maxRecDepth 20000 in

theorem m_dropOldest_4 (Ds : Nat → gDom) : gM K_Hi_dropOldest { frames := 0, locals := 0, cells := 0, slots := 0 } [.ref 0] (cO 3 [.ref 1, .int 6] :: cR [some 42, some 52, some 2, some 12, some 22, some 32] :: cHb 0 Ds []) (gD (.inl none) (cO 3 [.ref 1, .int 5] :: cR [some 52, some 2, some 12, some 22, some 32, some 42] :: cHb 0 Ds [])) := by
  refine gM_of rfl rfl (Nat.le_of_ble_eq_true rfl) (fun sc => ?_)
  refine gW_b D_Hi_dropOldest 0 9 (pc' := 12) (l' := [(0, .ref 0), (1, .ref 42), (2, .int 1)]) (st' := [.int 6, .int 1]) (h' := cO 3 [.ref 1, .int 6] :: cR [some 42, some 52, some 2, some 12, some 22, some 32] :: cHb 0 Ds []) (P := vp_in 0 6 ∧ True) rfl ⟨(gvl 0 6 (by omega) (by omega)), trivial⟩ ?_
  refine gW_ic_ge (gdec_at D_Hi_dropOldest 9 rfl) (tgt := 35) rfl (fun cq => absurd cq (by decide)) (fun _ => ?_)
  refine gW_b D_Hi_dropOldest 10 12 (pc' := 9) (l' := [(0, .ref 0), (1, .ref 42), (2, .int 2)]) (st' := []) (h' := cO 3 [.ref 1, .int 6] :: cR [some 52, some 52, some 2, some 12, some 22, some 32] :: cHb 0 Ds []) (P := vp_in 1 6 ∧ vp_in 0 6 ∧ True) rfl ⟨(gvl 1 6 (by omega) (by omega)), (gvl 0 6 (by omega) (by omega)), trivial⟩ ?_
  refine gW_b D_Hi_dropOldest 7 2 (pc' := 12) (l' := [(0, .ref 0), (1, .ref 42), (2, .int 2)]) (st' := [.int 6, .int 2]) (h' := cO 3 [.ref 1, .int 6] :: cR [some 52, some 52, some 2, some 12, some 22, some 32] :: cHb 0 Ds []) (P := True) rfl trivial ?_
  refine gW_ic_ge (gdec_at D_Hi_dropOldest 9 rfl) (tgt := 35) rfl (fun cq => absurd cq (by decide)) (fun _ => ?_)
  refine gW_b D_Hi_dropOldest 10 12 (pc' := 9) (l' := [(0, .ref 0), (1, .ref 42), (2, .int 3)]) (st' := []) (h' := cO 3 [.ref 1, .int 6] :: cR [some 52, some 2, some 2, some 12, some 22, some 32] :: cHb 0 Ds []) (P := vp_in 2 6 ∧ vp_in 1 6 ∧ True) rfl ⟨(gvl 2 6 (by omega) (by omega)), (gvl 1 6 (by omega) (by omega)), trivial⟩ ?_
  refine gW_b D_Hi_dropOldest 7 2 (pc' := 12) (l' := [(0, .ref 0), (1, .ref 42), (2, .int 3)]) (st' := [.int 6, .int 3]) (h' := cO 3 [.ref 1, .int 6] :: cR [some 52, some 2, some 2, some 12, some 22, some 32] :: cHb 0 Ds []) (P := True) rfl trivial ?_
  refine gW_ic_ge (gdec_at D_Hi_dropOldest 9 rfl) (tgt := 35) rfl (fun cq => absurd cq (by decide)) (fun _ => ?_)
  refine gW_b D_Hi_dropOldest 10 12 (pc' := 9) (l' := [(0, .ref 0), (1, .ref 42), (2, .int 4)]) (st' := []) (h' := cO 3 [.ref 1, .int 6] :: cR [some 52, some 2, some 12, some 12, some 22, some 32] :: cHb 0 Ds []) (P := vp_in 3 6 ∧ vp_in 2 6 ∧ True) rfl ⟨(gvl 3 6 (by omega) (by omega)), (gvl 2 6 (by omega) (by omega)), trivial⟩ ?_
  refine gW_b D_Hi_dropOldest 7 2 (pc' := 12) (l' := [(0, .ref 0), (1, .ref 42), (2, .int 4)]) (st' := [.int 6, .int 4]) (h' := cO 3 [.ref 1, .int 6] :: cR [some 52, some 2, some 12, some 12, some 22, some 32] :: cHb 0 Ds []) (P := True) rfl trivial ?_
  refine gW_ic_ge (gdec_at D_Hi_dropOldest 9 rfl) (tgt := 35) rfl (fun cq => absurd cq (by decide)) (fun _ => ?_)
  refine gW_b D_Hi_dropOldest 10 12 (pc' := 9) (l' := [(0, .ref 0), (1, .ref 42), (2, .int 5)]) (st' := []) (h' := cO 3 [.ref 1, .int 6] :: cR [some 52, some 2, some 12, some 22, some 22, some 32] :: cHb 0 Ds []) (P := vp_in 4 6 ∧ vp_in 3 6 ∧ True) rfl ⟨(gvl 4 6 (by omega) (by omega)), (gvl 3 6 (by omega) (by omega)), trivial⟩ ?_
  refine gW_b D_Hi_dropOldest 7 2 (pc' := 12) (l' := [(0, .ref 0), (1, .ref 42), (2, .int 5)]) (st' := [.int 6, .int 5]) (h' := cO 3 [.ref 1, .int 6] :: cR [some 52, some 2, some 12, some 22, some 22, some 32] :: cHb 0 Ds []) (P := True) rfl trivial ?_
  refine gW_ic_ge (gdec_at D_Hi_dropOldest 9 rfl) (tgt := 35) rfl (fun cq => absurd cq (by decide)) (fun _ => ?_)
  refine gW_b D_Hi_dropOldest 10 12 (pc' := 9) (l' := [(0, .ref 0), (1, .ref 42), (2, .int 6)]) (st' := []) (h' := cO 3 [.ref 1, .int 6] :: cR [some 52, some 2, some 12, some 22, some 32, some 32] :: cHb 0 Ds []) (P := vp_in 5 6 ∧ vp_in 4 6 ∧ True) rfl ⟨(gvl 5 6 (by omega) (by omega)), (gvl 4 6 (by omega) (by omega)), trivial⟩ ?_
  refine gW_b D_Hi_dropOldest 7 2 (pc' := 12) (l' := [(0, .ref 0), (1, .ref 42), (2, .int 6)]) (st' := [.int 6, .int 6]) (h' := cO 3 [.ref 1, .int 6] :: cR [some 52, some 2, some 12, some 22, some 32, some 32] :: cHb 0 Ds []) (P := True) rfl trivial ?_
  refine gW_ic_ge (gdec_at D_Hi_dropOldest 9 rfl) (tgt := 35) rfl (fun _ => ?_) (fun cq => absurd (by decide) cq)
  refine gW_b D_Hi_dropOldest 22 11 (pc' := 52) (l' := [(0, .ref 0), (1, .ref 42), (2, .int 6)]) (st' := []) (h' := cO 3 [.ref 1, .int 5] :: cR [some 52, some 2, some 12, some 22, some 32, some 42] :: cHb 0 Ds []) (P := vp_in 5 6 ∧ True) rfl ⟨(gvl 5 6 (by omega) (by omega)), trivial⟩ ?_
  exact gW_vret (gdec_at D_Hi_dropOldest 33 rfl) rfl (Nat.le_of_ble_eq_true rfl) ⟨rfl, rfl⟩ (Nat.le_of_ble_eq_true rfl) (Nat.le_of_ble_eq_true rfl)
set_option maxRecDepth 20000 in

theorem m_dropOldest_5 (Ds : Nat → gDom) : gM K_Hi_dropOldest { frames := 0, locals := 0, cells := 0, slots := 0 } [.ref 0] (cO 3 [.ref 1, .int 6] :: cR [some 52, some 2, some 12, some 22, some 32, some 42] :: cHb 0 Ds []) (gD (.inl none) (cO 3 [.ref 1, .int 5] :: cR [some 2, some 12, some 22, some 32, some 42, some 52] :: cHb 0 Ds [])) := by
  refine gM_of rfl rfl (Nat.le_of_ble_eq_true rfl) (fun sc => ?_)
  refine gW_b D_Hi_dropOldest 0 9 (pc' := 12) (l' := [(0, .ref 0), (1, .ref 52), (2, .int 1)]) (st' := [.int 6, .int 1]) (h' := cO 3 [.ref 1, .int 6] :: cR [some 52, some 2, some 12, some 22, some 32, some 42] :: cHb 0 Ds []) (P := vp_in 0 6 ∧ True) rfl ⟨(gvl 0 6 (by omega) (by omega)), trivial⟩ ?_
  refine gW_ic_ge (gdec_at D_Hi_dropOldest 9 rfl) (tgt := 35) rfl (fun cq => absurd cq (by decide)) (fun _ => ?_)
  refine gW_b D_Hi_dropOldest 10 12 (pc' := 9) (l' := [(0, .ref 0), (1, .ref 52), (2, .int 2)]) (st' := []) (h' := cO 3 [.ref 1, .int 6] :: cR [some 2, some 2, some 12, some 22, some 32, some 42] :: cHb 0 Ds []) (P := vp_in 1 6 ∧ vp_in 0 6 ∧ True) rfl ⟨(gvl 1 6 (by omega) (by omega)), (gvl 0 6 (by omega) (by omega)), trivial⟩ ?_
  refine gW_b D_Hi_dropOldest 7 2 (pc' := 12) (l' := [(0, .ref 0), (1, .ref 52), (2, .int 2)]) (st' := [.int 6, .int 2]) (h' := cO 3 [.ref 1, .int 6] :: cR [some 2, some 2, some 12, some 22, some 32, some 42] :: cHb 0 Ds []) (P := True) rfl trivial ?_
  refine gW_ic_ge (gdec_at D_Hi_dropOldest 9 rfl) (tgt := 35) rfl (fun cq => absurd cq (by decide)) (fun _ => ?_)
  refine gW_b D_Hi_dropOldest 10 12 (pc' := 9) (l' := [(0, .ref 0), (1, .ref 52), (2, .int 3)]) (st' := []) (h' := cO 3 [.ref 1, .int 6] :: cR [some 2, some 12, some 12, some 22, some 32, some 42] :: cHb 0 Ds []) (P := vp_in 2 6 ∧ vp_in 1 6 ∧ True) rfl ⟨(gvl 2 6 (by omega) (by omega)), (gvl 1 6 (by omega) (by omega)), trivial⟩ ?_
  refine gW_b D_Hi_dropOldest 7 2 (pc' := 12) (l' := [(0, .ref 0), (1, .ref 52), (2, .int 3)]) (st' := [.int 6, .int 3]) (h' := cO 3 [.ref 1, .int 6] :: cR [some 2, some 12, some 12, some 22, some 32, some 42] :: cHb 0 Ds []) (P := True) rfl trivial ?_
  refine gW_ic_ge (gdec_at D_Hi_dropOldest 9 rfl) (tgt := 35) rfl (fun cq => absurd cq (by decide)) (fun _ => ?_)
  refine gW_b D_Hi_dropOldest 10 12 (pc' := 9) (l' := [(0, .ref 0), (1, .ref 52), (2, .int 4)]) (st' := []) (h' := cO 3 [.ref 1, .int 6] :: cR [some 2, some 12, some 22, some 22, some 32, some 42] :: cHb 0 Ds []) (P := vp_in 3 6 ∧ vp_in 2 6 ∧ True) rfl ⟨(gvl 3 6 (by omega) (by omega)), (gvl 2 6 (by omega) (by omega)), trivial⟩ ?_
  refine gW_b D_Hi_dropOldest 7 2 (pc' := 12) (l' := [(0, .ref 0), (1, .ref 52), (2, .int 4)]) (st' := [.int 6, .int 4]) (h' := cO 3 [.ref 1, .int 6] :: cR [some 2, some 12, some 22, some 22, some 32, some 42] :: cHb 0 Ds []) (P := True) rfl trivial ?_
  refine gW_ic_ge (gdec_at D_Hi_dropOldest 9 rfl) (tgt := 35) rfl (fun cq => absurd cq (by decide)) (fun _ => ?_)
  refine gW_b D_Hi_dropOldest 10 12 (pc' := 9) (l' := [(0, .ref 0), (1, .ref 52), (2, .int 5)]) (st' := []) (h' := cO 3 [.ref 1, .int 6] :: cR [some 2, some 12, some 22, some 32, some 32, some 42] :: cHb 0 Ds []) (P := vp_in 4 6 ∧ vp_in 3 6 ∧ True) rfl ⟨(gvl 4 6 (by omega) (by omega)), (gvl 3 6 (by omega) (by omega)), trivial⟩ ?_
  refine gW_b D_Hi_dropOldest 7 2 (pc' := 12) (l' := [(0, .ref 0), (1, .ref 52), (2, .int 5)]) (st' := [.int 6, .int 5]) (h' := cO 3 [.ref 1, .int 6] :: cR [some 2, some 12, some 22, some 32, some 32, some 42] :: cHb 0 Ds []) (P := True) rfl trivial ?_
  refine gW_ic_ge (gdec_at D_Hi_dropOldest 9 rfl) (tgt := 35) rfl (fun cq => absurd cq (by decide)) (fun _ => ?_)
  refine gW_b D_Hi_dropOldest 10 12 (pc' := 9) (l' := [(0, .ref 0), (1, .ref 52), (2, .int 6)]) (st' := []) (h' := cO 3 [.ref 1, .int 6] :: cR [some 2, some 12, some 22, some 32, some 42, some 42] :: cHb 0 Ds []) (P := vp_in 5 6 ∧ vp_in 4 6 ∧ True) rfl ⟨(gvl 5 6 (by omega) (by omega)), (gvl 4 6 (by omega) (by omega)), trivial⟩ ?_
  refine gW_b D_Hi_dropOldest 7 2 (pc' := 12) (l' := [(0, .ref 0), (1, .ref 52), (2, .int 6)]) (st' := [.int 6, .int 6]) (h' := cO 3 [.ref 1, .int 6] :: cR [some 2, some 12, some 22, some 32, some 42, some 42] :: cHb 0 Ds []) (P := True) rfl trivial ?_
  refine gW_ic_ge (gdec_at D_Hi_dropOldest 9 rfl) (tgt := 35) rfl (fun _ => ?_) (fun cq => absurd (by decide) cq)
  refine gW_b D_Hi_dropOldest 22 11 (pc' := 52) (l' := [(0, .ref 0), (1, .ref 52), (2, .int 6)]) (st' := []) (h' := cO 3 [.ref 1, .int 5] :: cR [some 2, some 12, some 22, some 32, some 42, some 52] :: cHb 0 Ds []) (P := vp_in 5 6 ∧ True) rfl ⟨(gvl 5 6 (by omega) (by omega)), trivial⟩ ?_
  exact gW_vret (gdec_at D_Hi_dropOldest 33 rfl) rfl (Nat.le_of_ble_eq_true rfl) ⟨rfl, rfl⟩ (Nat.le_of_ble_eq_true rfl) (Nat.le_of_ble_eq_true rfl)
theorem m_dropOldest (r : Nat) (Ds : Nat → gDom) (hr : r < 6) : gM K_Hi_dropOldest { frames := 0, locals := 0, cells := 0, slots := 0 } [.ref 0] (cHs 0 r 6 Ds []) (gD (.inl none) (cHs 0 ((r + 1) % 6) 5 Ds [])) := by
  rcases (show r = 0 ∨ r = 1 ∨ r = 2 ∨ r = 3 ∨ r = 4 ∨ r = 5 by omega) with rfl | rfl | rfl | rfl | rfl | rfl
  · exact m_dropOldest_0 Ds
  · exact m_dropOldest_1 Ds
  · exact m_dropOldest_2 Ds
  · exact m_dropOldest_3 Ds
  · exact m_dropOldest_4 Ds
  · exact m_dropOldest_5 Ds
set_option maxRecDepth 20000 in
theorem z_save_0 (r n : Nat) (Ds : Nat → gDom) (D : gDom) {sc : Nat × (Nat → Int32)} : gW K_Hi_save sc { frames := 4, locals := 103, cells := 0, slots := 0 } 72 (gD (.inl none) (cHs 0 r (n + 1) (updD Ds 0 D) (cDo 62 D))) 0 0 21 [(0, .ref 0), (1, .ref 62)] [.ref 2] (cHs 0 r n Ds (cDo 62 D)) := by
  refine gW_b D_Hi_save 10 2 (pc' := 23) (l' := [(0, .ref 0), (1, .ref 62), (2, .ref 2)]) (st' := [.ref 2]) (h' := cHs 0 r n Ds (cDo 62 D)) (P := True) rfl trivial ?_
  refine gW_nn (gdec_at D_Hi_save 12 rfl) ?_
  refine gW_b D_Hi_save 13 2 (pc' := 28) (l' := [(0, .ref 0), (1, .ref 62), (2, .ref 2)]) (st' := [.ref 62, .ref 2]) (h' := cHs 0 r n Ds (cDo 62 D)) (P := True) rfl trivial ?_
  refine gW_callV (m_DocopyFrom D (Ds 0)) lk_Hi_29 (gps 2 10 62 10) (gdec_at D_Hi_save 15 rfl) (st := []) rfl rfl (gCut_seg (Nat.le_of_ble_eq_true rfl) (Nat.le_of_ble_eq_true rfl) rfl (by decide +kernel)) (Nat.le_of_ble_eq_true rfl) rfl (by decide) rfl (Nat.le_of_ble_eq_true rfl) ⟨Nat.le_of_ble_eq_true rfl, Nat.le_of_ble_eq_true rfl⟩ ⟨Nat.le_of_ble_eq_true rfl, Nat.le_of_ble_eq_true rfl⟩ (gAft_s (Nat.le_of_ble_eq_true rfl) (Nat.le_of_ble_eq_true rfl) rfl rfl rfl rfl (h' := cHs 0 r n (updD Ds 0 D) (cDo 62 D)) (st' := []) (pc' := 31) (cs' := 0) (ss' := 0) rfl rfl rfl rfl rfl ?_)
  refine gW_b D_Hi_save 16 6 (pc' := 41) (l' := [(0, .ref 0), (1, .ref 62), (2, .ref 2)]) (st' := []) (h' := cO 3 [.ref 1, .int (nI n + 1)] :: cR (rot 0 r) :: cHb 0 (updD Ds 0 D) (cDo 62 D)) (P := True) rfl trivial ?_
  rw [show (nI n + 1 : Int32) = nI (n + 1) from gadd rfl (gk 1)]
  exact gW_vret (gdec_at D_Hi_save 22 rfl) rfl (Nat.le_of_ble_eq_true rfl) ⟨rfl, rfl⟩ (Nat.le_of_ble_eq_true rfl) (Nat.le_of_ble_eq_true rfl)
set_option maxRecDepth 20000 in
theorem z_save_1 (r n : Nat) (Ds : Nat → gDom) (D : gDom) {sc : Nat × (Nat → Int32)} : gW K_Hi_save sc { frames := 4, locals := 103, cells := 0, slots := 0 } 72 (gD (.inl none) (cHs 0 r (n + 1) (updD Ds 1 D) (cDo 62 D))) 0 0 21 [(0, .ref 0), (1, .ref 62)] [.ref 12] (cHs 0 r n Ds (cDo 62 D)) := by
  refine gW_b D_Hi_save 10 2 (pc' := 23) (l' := [(0, .ref 0), (1, .ref 62), (2, .ref 12)]) (st' := [.ref 12]) (h' := cHs 0 r n Ds (cDo 62 D)) (P := True) rfl trivial ?_
  refine gW_nn (gdec_at D_Hi_save 12 rfl) ?_
  refine gW_b D_Hi_save 13 2 (pc' := 28) (l' := [(0, .ref 0), (1, .ref 62), (2, .ref 12)]) (st' := [.ref 62, .ref 12]) (h' := cHs 0 r n Ds (cDo 62 D)) (P := True) rfl trivial ?_
  refine gW_callV (m_DocopyFrom D (Ds 1)) lk_Hi_29 (gps 12 10 62 10) (gdec_at D_Hi_save 15 rfl) (st := []) rfl rfl (gCut_seg (Nat.le_of_ble_eq_true rfl) (Nat.le_of_ble_eq_true rfl) rfl (by decide +kernel)) (Nat.le_of_ble_eq_true rfl) rfl (by decide) rfl (Nat.le_of_ble_eq_true rfl) ⟨Nat.le_of_ble_eq_true rfl, Nat.le_of_ble_eq_true rfl⟩ ⟨Nat.le_of_ble_eq_true rfl, Nat.le_of_ble_eq_true rfl⟩ (gAft_s (Nat.le_of_ble_eq_true rfl) (Nat.le_of_ble_eq_true rfl) rfl rfl rfl rfl (h' := cHs 0 r n (updD Ds 1 D) (cDo 62 D)) (st' := []) (pc' := 31) (cs' := 0) (ss' := 0) rfl rfl rfl rfl rfl ?_)
  refine gW_b D_Hi_save 16 6 (pc' := 41) (l' := [(0, .ref 0), (1, .ref 62), (2, .ref 12)]) (st' := []) (h' := cO 3 [.ref 1, .int (nI n + 1)] :: cR (rot 0 r) :: cHb 0 (updD Ds 1 D) (cDo 62 D)) (P := True) rfl trivial ?_
  rw [show (nI n + 1 : Int32) = nI (n + 1) from gadd rfl (gk 1)]
  exact gW_vret (gdec_at D_Hi_save 22 rfl) rfl (Nat.le_of_ble_eq_true rfl) ⟨rfl, rfl⟩ (Nat.le_of_ble_eq_true rfl) (Nat.le_of_ble_eq_true rfl)
set_option maxRecDepth 20000 in
theorem z_save_2 (r n : Nat) (Ds : Nat → gDom) (D : gDom) {sc : Nat × (Nat → Int32)} : gW K_Hi_save sc { frames := 4, locals := 103, cells := 0, slots := 0 } 72 (gD (.inl none) (cHs 0 r (n + 1) (updD Ds 2 D) (cDo 62 D))) 0 0 21 [(0, .ref 0), (1, .ref 62)] [.ref 22] (cHs 0 r n Ds (cDo 62 D)) := by
  refine gW_b D_Hi_save 10 2 (pc' := 23) (l' := [(0, .ref 0), (1, .ref 62), (2, .ref 22)]) (st' := [.ref 22]) (h' := cHs 0 r n Ds (cDo 62 D)) (P := True) rfl trivial ?_
  refine gW_nn (gdec_at D_Hi_save 12 rfl) ?_
  refine gW_b D_Hi_save 13 2 (pc' := 28) (l' := [(0, .ref 0), (1, .ref 62), (2, .ref 22)]) (st' := [.ref 62, .ref 22]) (h' := cHs 0 r n Ds (cDo 62 D)) (P := True) rfl trivial ?_
  refine gW_callV (m_DocopyFrom D (Ds 2)) lk_Hi_29 (gps 22 10 62 10) (gdec_at D_Hi_save 15 rfl) (st := []) rfl rfl (gCut_seg (Nat.le_of_ble_eq_true rfl) (Nat.le_of_ble_eq_true rfl) rfl (by decide +kernel)) (Nat.le_of_ble_eq_true rfl) rfl (by decide) rfl (Nat.le_of_ble_eq_true rfl) ⟨Nat.le_of_ble_eq_true rfl, Nat.le_of_ble_eq_true rfl⟩ ⟨Nat.le_of_ble_eq_true rfl, Nat.le_of_ble_eq_true rfl⟩ (gAft_s (Nat.le_of_ble_eq_true rfl) (Nat.le_of_ble_eq_true rfl) rfl rfl rfl rfl (h' := cHs 0 r n (updD Ds 2 D) (cDo 62 D)) (st' := []) (pc' := 31) (cs' := 0) (ss' := 0) rfl rfl rfl rfl rfl ?_)
  refine gW_b D_Hi_save 16 6 (pc' := 41) (l' := [(0, .ref 0), (1, .ref 62), (2, .ref 22)]) (st' := []) (h' := cO 3 [.ref 1, .int (nI n + 1)] :: cR (rot 0 r) :: cHb 0 (updD Ds 2 D) (cDo 62 D)) (P := True) rfl trivial ?_
  rw [show (nI n + 1 : Int32) = nI (n + 1) from gadd rfl (gk 1)]
  exact gW_vret (gdec_at D_Hi_save 22 rfl) rfl (Nat.le_of_ble_eq_true rfl) ⟨rfl, rfl⟩ (Nat.le_of_ble_eq_true rfl) (Nat.le_of_ble_eq_true rfl)
set_option maxRecDepth 20000 in
theorem z_save_3 (r n : Nat) (Ds : Nat → gDom) (D : gDom) {sc : Nat × (Nat → Int32)} : gW K_Hi_save sc { frames := 4, locals := 103, cells := 0, slots := 0 } 72 (gD (.inl none) (cHs 0 r (n + 1) (updD Ds 3 D) (cDo 62 D))) 0 0 21 [(0, .ref 0), (1, .ref 62)] [.ref 32] (cHs 0 r n Ds (cDo 62 D)) := by
  refine gW_b D_Hi_save 10 2 (pc' := 23) (l' := [(0, .ref 0), (1, .ref 62), (2, .ref 32)]) (st' := [.ref 32]) (h' := cHs 0 r n Ds (cDo 62 D)) (P := True) rfl trivial ?_
  refine gW_nn (gdec_at D_Hi_save 12 rfl) ?_
  refine gW_b D_Hi_save 13 2 (pc' := 28) (l' := [(0, .ref 0), (1, .ref 62), (2, .ref 32)]) (st' := [.ref 62, .ref 32]) (h' := cHs 0 r n Ds (cDo 62 D)) (P := True) rfl trivial ?_
  refine gW_callV (m_DocopyFrom D (Ds 3)) lk_Hi_29 (gps 32 10 62 10) (gdec_at D_Hi_save 15 rfl) (st := []) rfl rfl (gCut_seg (Nat.le_of_ble_eq_true rfl) (Nat.le_of_ble_eq_true rfl) rfl (by decide +kernel)) (Nat.le_of_ble_eq_true rfl) rfl (by decide) rfl (Nat.le_of_ble_eq_true rfl) ⟨Nat.le_of_ble_eq_true rfl, Nat.le_of_ble_eq_true rfl⟩ ⟨Nat.le_of_ble_eq_true rfl, Nat.le_of_ble_eq_true rfl⟩ (gAft_s (Nat.le_of_ble_eq_true rfl) (Nat.le_of_ble_eq_true rfl) rfl rfl rfl rfl (h' := cHs 0 r n (updD Ds 3 D) (cDo 62 D)) (st' := []) (pc' := 31) (cs' := 0) (ss' := 0) rfl rfl rfl rfl rfl ?_)
  refine gW_b D_Hi_save 16 6 (pc' := 41) (l' := [(0, .ref 0), (1, .ref 62), (2, .ref 32)]) (st' := []) (h' := cO 3 [.ref 1, .int (nI n + 1)] :: cR (rot 0 r) :: cHb 0 (updD Ds 3 D) (cDo 62 D)) (P := True) rfl trivial ?_
  rw [show (nI n + 1 : Int32) = nI (n + 1) from gadd rfl (gk 1)]
  exact gW_vret (gdec_at D_Hi_save 22 rfl) rfl (Nat.le_of_ble_eq_true rfl) ⟨rfl, rfl⟩ (Nat.le_of_ble_eq_true rfl) (Nat.le_of_ble_eq_true rfl)
set_option maxRecDepth 20000 in
theorem z_save_4 (r n : Nat) (Ds : Nat → gDom) (D : gDom) {sc : Nat × (Nat → Int32)} : gW K_Hi_save sc { frames := 4, locals := 103, cells := 0, slots := 0 } 72 (gD (.inl none) (cHs 0 r (n + 1) (updD Ds 4 D) (cDo 62 D))) 0 0 21 [(0, .ref 0), (1, .ref 62)] [.ref 42] (cHs 0 r n Ds (cDo 62 D)) := by
  refine gW_b D_Hi_save 10 2 (pc' := 23) (l' := [(0, .ref 0), (1, .ref 62), (2, .ref 42)]) (st' := [.ref 42]) (h' := cHs 0 r n Ds (cDo 62 D)) (P := True) rfl trivial ?_
  refine gW_nn (gdec_at D_Hi_save 12 rfl) ?_
  refine gW_b D_Hi_save 13 2 (pc' := 28) (l' := [(0, .ref 0), (1, .ref 62), (2, .ref 42)]) (st' := [.ref 62, .ref 42]) (h' := cHs 0 r n Ds (cDo 62 D)) (P := True) rfl trivial ?_
  refine gW_callV (m_DocopyFrom D (Ds 4)) lk_Hi_29 (gps 42 10 62 10) (gdec_at D_Hi_save 15 rfl) (st := []) rfl rfl (gCut_seg (Nat.le_of_ble_eq_true rfl) (Nat.le_of_ble_eq_true rfl) rfl (by decide +kernel)) (Nat.le_of_ble_eq_true rfl) rfl (by decide) rfl (Nat.le_of_ble_eq_true rfl) ⟨Nat.le_of_ble_eq_true rfl, Nat.le_of_ble_eq_true rfl⟩ ⟨Nat.le_of_ble_eq_true rfl, Nat.le_of_ble_eq_true rfl⟩ (gAft_s (Nat.le_of_ble_eq_true rfl) (Nat.le_of_ble_eq_true rfl) rfl rfl rfl rfl (h' := cHs 0 r n (updD Ds 4 D) (cDo 62 D)) (st' := []) (pc' := 31) (cs' := 0) (ss' := 0) rfl rfl rfl rfl rfl ?_)
  refine gW_b D_Hi_save 16 6 (pc' := 41) (l' := [(0, .ref 0), (1, .ref 62), (2, .ref 42)]) (st' := []) (h' := cO 3 [.ref 1, .int (nI n + 1)] :: cR (rot 0 r) :: cHb 0 (updD Ds 4 D) (cDo 62 D)) (P := True) rfl trivial ?_
  rw [show (nI n + 1 : Int32) = nI (n + 1) from gadd rfl (gk 1)]
  exact gW_vret (gdec_at D_Hi_save 22 rfl) rfl (Nat.le_of_ble_eq_true rfl) ⟨rfl, rfl⟩ (Nat.le_of_ble_eq_true rfl) (Nat.le_of_ble_eq_true rfl)
set_option maxRecDepth 20000 in
theorem z_save_5 (r n : Nat) (Ds : Nat → gDom) (D : gDom) {sc : Nat × (Nat → Int32)} : gW K_Hi_save sc { frames := 4, locals := 103, cells := 0, slots := 0 } 72 (gD (.inl none) (cHs 0 r (n + 1) (updD Ds 5 D) (cDo 62 D))) 0 0 21 [(0, .ref 0), (1, .ref 62)] [.ref 52] (cHs 0 r n Ds (cDo 62 D)) := by
  refine gW_b D_Hi_save 10 2 (pc' := 23) (l' := [(0, .ref 0), (1, .ref 62), (2, .ref 52)]) (st' := [.ref 52]) (h' := cHs 0 r n Ds (cDo 62 D)) (P := True) rfl trivial ?_
  refine gW_nn (gdec_at D_Hi_save 12 rfl) ?_
  refine gW_b D_Hi_save 13 2 (pc' := 28) (l' := [(0, .ref 0), (1, .ref 62), (2, .ref 52)]) (st' := [.ref 62, .ref 52]) (h' := cHs 0 r n Ds (cDo 62 D)) (P := True) rfl trivial ?_
  refine gW_callV (m_DocopyFrom D (Ds 5)) lk_Hi_29 (gps 52 10 62 10) (gdec_at D_Hi_save 15 rfl) (st := []) rfl rfl (gCut_seg (Nat.le_of_ble_eq_true rfl) (Nat.le_of_ble_eq_true rfl) rfl (by decide +kernel)) (Nat.le_of_ble_eq_true rfl) rfl (by decide) rfl (Nat.le_of_ble_eq_true rfl) ⟨Nat.le_of_ble_eq_true rfl, Nat.le_of_ble_eq_true rfl⟩ ⟨Nat.le_of_ble_eq_true rfl, Nat.le_of_ble_eq_true rfl⟩ (gAft_s (Nat.le_of_ble_eq_true rfl) (Nat.le_of_ble_eq_true rfl) rfl rfl rfl rfl (h' := cHs 0 r n (updD Ds 5 D) (cDo 62 D)) (st' := []) (pc' := 31) (cs' := 0) (ss' := 0) rfl rfl rfl rfl rfl ?_)
  refine gW_b D_Hi_save 16 6 (pc' := 41) (l' := [(0, .ref 0), (1, .ref 62), (2, .ref 52)]) (st' := []) (h' := cO 3 [.ref 1, .int (nI n + 1)] :: cR (rot 0 r) :: cHb 0 (updD Ds 5 D) (cDo 62 D)) (P := True) rfl trivial ?_
  rw [show (nI n + 1 : Int32) = nI (n + 1) from gadd rfl (gk 1)]
  exact gW_vret (gdec_at D_Hi_save 22 rfl) rfl (Nat.le_of_ble_eq_true rfl) ⟨rfl, rfl⟩ (Nat.le_of_ble_eq_true rfl) (Nat.le_of_ble_eq_true rfl)
theorem z_save (r n j : Nat) (Ds : Nat → gDom) (D : gDom) (hj : j < 6) {sc : Nat × (Nat → Int32)} : gW K_Hi_save sc { frames := 4, locals := 103, cells := 0, slots := 0 } 72 (gD (.inl none) (cHs 0 r (n + 1) (updD Ds j D) (cDo 62 D))) 0 0 21 [(0, .ref 0), (1, .ref 62)] [.ref (2 + 10 * j)] (cHs 0 r n Ds (cDo 62 D)) := by
  rcases (show j = 0 ∨ j = 1 ∨ j = 2 ∨ j = 3 ∨ j = 4 ∨ j = 5 by omega) with rfl | rfl | rfl | rfl | rfl | rfl
  · exact z_save_0 r n Ds D
  · exact z_save_1 r n Ds D
  · exact z_save_2 r n Ds D
  · exact z_save_3 r n Ds D
  · exact z_save_4 r n Ds D
  · exact z_save_5 r n Ds D
set_option maxRecDepth 20000 in
theorem m_save (r n : Nat) (Ds : Nat → gDom) (D : gDom) (hr : r < 6) (hn : n ≤ 6) : gM K_Hi_save { frames := 4, locals := 103, cells := 0, slots := 0 } [.ref 0, .ref 62] (cHs 0 r n Ds (cDo 62 D)) (gD (.inl none) (cHs 0 (svR r n) (svN n) (updD Ds (svK r n) D) (cDo 62 D))) := by
  refine gM_of rfl rfl (Nat.le_of_ble_eq_true rfl) (fun sc => ?_)
  refine gW_b D_Hi_save 0 3 (pc' := 6) (l' := [(0, .ref 0), (1, .ref 62)]) (st' := [.int 6, .int (nI n)]) (h' := cHs 0 r n Ds (cDo 62 D)) (P := True) rfl trivial ?_
  refine gW_ic_lt (gdec_at D_Hi_save 3 rfl) (tgt := 13) rfl (fun c => ?_) (fun c => ?_)
  · have c := (glt (rfl : nI n = nI n) (gk 6) (by omega) (by omega)).mp c
    rw [show svR r n = r from if_pos c, show svN n = n + 1 from if_pos c, show svK r n = (n + r) % 6 from if_pos c]
    refine gW_b D_Hi_save 6 3 (pc' := 18) (l' := [(0, .ref 0), (1, .ref 62)]) (st' := [.int (nI n), .ref 0]) (h' := cHs 0 r n Ds (cDo 62 D)) (P := True) rfl trivial ?_
    refine gW_callV (m_slotAt r n n Ds hr (by omega)) lk_Hi_25 (gps 0 62 0 0) (gdec_at D_Hi_save 9 rfl) (st := []) rfl rfl (cut62 r n Ds D hr) (Nat.le_of_ble_eq_true rfl) rfl (by decide) rfl (Nat.le_of_ble_eq_true rfl) ⟨Nat.le_of_ble_eq_true rfl, Nat.le_of_ble_eq_true rfl⟩ ⟨Nat.le_of_ble_eq_true rfl, Nat.le_of_ble_eq_true rfl⟩ (gAft_s (Nat.le_of_ble_eq_true rfl) (Nat.le_of_ble_eq_true rfl) rfl rfl (wf62 r n Ds hr) (by simp only [Option.toList, List.all_cons, List.all_nil, Bool.and_true]; exact gwv62 _ (by show 2 + 10 * ((n + r) % 6) < 62; omega)) (h' := cHs 0 r n Ds (cDo 62 D)) (st' := [.ref (2 + 10 * ((n + r) % 6))]) (pc' := 21) (cs' := 0) (ss' := 0) (mrg62 r n r n Ds D hr) (by rw [Option.map_some, gmv62 (by omega)]; rfl) rfl rfl rfl ?_)
    exact z_save r n ((n + r) % 6) Ds D (Nat.mod_lt _ (by decide))
  · have c := mt (glt (rfl : nI n = nI n) (gk 6) (by omega) (by omega)).mpr c
    obtain rfl : n = 6 := by omega
    rw [show svR r 6 = (r + 1) % 6 from rfl, show svN 6 = 6 from rfl, show svK r 6 = r from rfl]
    refine gW_b D_Hi_save 4 1 (pc' := 10) (l' := [(0, .ref 0), (1, .ref 62)]) (st' := [.ref 0]) (h' := cHs 0 r 6 Ds (cDo 62 D)) (P := True) rfl trivial ?_
    refine gW_callV (m_dropOldest r Ds hr) lk_Hi_22 (gps 0 62 0 0) (gdec_at D_Hi_save 5 rfl) (st := []) rfl rfl (cut62 r 6 Ds D hr) (Nat.le_of_ble_eq_true rfl) rfl (by decide) rfl (Nat.le_of_ble_eq_true rfl) ⟨Nat.le_of_ble_eq_true rfl, Nat.le_of_ble_eq_true rfl⟩ ⟨Nat.le_of_ble_eq_true rfl, Nat.le_of_ble_eq_true rfl⟩ (gAft_s (Nat.le_of_ble_eq_true rfl) (Nat.le_of_ble_eq_true rfl) rfl rfl (wf62 ((r + 1) % 6) 5 Ds (Nat.mod_lt _ (by decide))) rfl (h' := cHs 0 ((r + 1) % 6) 5 Ds (cDo 62 D)) (st' := []) (pc' := 13) (cs' := 0) (ss' := 0) (mrg62 r 6 ((r + 1) % 6) 5 Ds D (Nat.mod_lt _ (by decide))) rfl rfl rfl rfl ?_)
    refine gW_b D_Hi_save 6 3 (pc' := 18) (l' := [(0, .ref 0), (1, .ref 62)]) (st' := [.int (nI 5), .ref 0]) (h' := cHs 0 ((r + 1) % 6) 5 Ds (cDo 62 D)) (P := True) rfl trivial ?_
    refine gW_callV (m_slotAt ((r + 1) % 6) 5 5 Ds (Nat.mod_lt _ (by decide)) (by omega)) lk_Hi_25 (gps 0 62 0 0) (gdec_at D_Hi_save 9 rfl) (st := []) rfl rfl (cut62 ((r + 1) % 6) 5 Ds D (Nat.mod_lt _ (by decide))) (Nat.le_of_ble_eq_true rfl) rfl (by decide) rfl (Nat.le_of_ble_eq_true rfl) ⟨Nat.le_of_ble_eq_true rfl, Nat.le_of_ble_eq_true rfl⟩ ⟨Nat.le_of_ble_eq_true rfl, Nat.le_of_ble_eq_true rfl⟩ (gAft_s (Nat.le_of_ble_eq_true rfl) (Nat.le_of_ble_eq_true rfl) rfl rfl (wf62 ((r + 1) % 6) 5 Ds (Nat.mod_lt _ (by decide))) (by simp only [Option.toList, List.all_cons, List.all_nil, Bool.and_true]; exact gwv62 _ (by show 2 + 10 * ((5 + ((r + 1) % 6)) % 6) < 62; omega)) (h' := cHs 0 ((r + 1) % 6) 5 Ds (cDo 62 D)) (st' := [.ref (2 + 10 * ((5 + ((r + 1) % 6)) % 6))]) (pc' := 21) (cs' := 0) (ss' := 0) (mrg62 ((r + 1) % 6) 5 ((r + 1) % 6) 5 Ds D (Nat.mod_lt _ (by decide))) (by rw [Option.map_some, gmv62 (by omega)]; rfl) rfl rfl rfl ?_)
    rw [show (5 + (r + 1) % 6) % 6 = r by omega]
    exact z_save ((r + 1) % 6) 5 r Ds D hr
