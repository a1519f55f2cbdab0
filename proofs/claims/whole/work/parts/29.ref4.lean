/-! THE REFERENCE's methods: what setters do, days. Printed by wip/whole/meths16.py -/
/-- what the walks ask of a row's section: a tone, few cubes wanted -/
def rowOK (g : Nat → Int32) (p : Nat) : Prop := okT (g (p * 5 + 1)) ∧ g (p * 5 + 2) = nI (tnx (g (p * 5 + 2))) ∧ tnx (g (p * 5 + 2)) ≤ 500
def stOK (s : Nat → Int32) : Prop := s 5 = nI (tnx (s 5)) ∧ (tnx (s 5) = 0 ∨ 2 ≤ tnx (s 5)) ∧ tnx (s 5) ≤ 99 ∧ s 4 = nI (tnx (s 4)) ∧ 1 ≤ tnx (s 4) ∧ tnx (s 4) ≤ 99 ∧ s 3 = nI (tnx (s 3)) ∧ tnx (s 3) ≤ 9
def rOK (D : gDom) : Prop := dSz D ≤ 10 ∧ (∀ p, p < dSz D → rowOK (dG D) p) ∧ stOK (dSt D)
def lyA (x l : Int32) : Int32 := if l ≤ x then l else x
/-- how many cubes a setter takes: not more than x, than he lays in a day, than there are -/
def lyK (D : gDom) (t : Nat) (x : Int32) : Int32 := lyA (lyA x (dSt D 4)) (rpI (dTr D) t 6)
def lcH (f : Nat → Int32) (i t : Nat) (l : Int32) : Int32 := lyA (if tn f i ≤ 1 then f (i * 4 + t) else 0) l
def lcR (t : Nat) : Nat → Nat → (Nat → Int32) → Int32 → Nat → Int32
  | 0, _, f, _ => f
  | n + 1, i, f, l => lcR t n (i + 1) (upd f (i * 4 + t) (f (i * 4 + t) - lcH f i t l)) (l - lcH f i t l)
theorem lcR_st {t n i : Nat} {f : Nat → Int32} {l v : Int32} (hh : lcH f i t l = v) : lcR t (n + 1) i f l = lcR t n (i + 1) (upd f (i * 4 + t) (f (i * 4 + t) - v)) (l - v) := by
  subst hh
  rfl
def layG (g : Nat → Int32) (s : Nat) (v : Int32) : Nat → Int32 := upd (upd g (s * 5 + 4) (g (s * 5 + 4) + v)) (s * 5 + 2) (upd g (s * 5 + 4) (g (s * 5 + 4) + v) (s * 5 + 2) - v)
def lyE (D : gDom) (s t : Nat) (n b : Int32) : gDom := (lcR t 6 0 (dTr D) n, layG (dG D) s (n - b), dSz D, dC D, dSt D, dSh D, dCu D, upd (dLa D) t (dLa D t + (n - b)), upd (dSw D) t (dSw D t + b), D.2.2.2.2.2.2.2.2.2)
def lyN (D : gDom) (s : Nat) : Int32 := lyK D (tnx (dG D (s * 5 + 1))) (nI (tkN (tnx (dSt D 5)) (tnx (dG D (s * 5 + 2)))))
def lyB (D : gDom) (s : Nat) : Int32 := brkI (dSt D 5) (lyN D s)
def lyD (D : gDom) (s : Nat) : gDom := lyE D s (tnx (dG D (s * 5 + 1))) (lyN D s) (lyB D s)
def lyV (D : gDom) (s : Nat) : Int32 := lyN D s - lyB D s
theorem nI_pos1 {c : Nat} (h : ¬ nI c ≤ 0) : 1 ≤ c := by
  by_cases h0 : c = 0
  · subst h0
    exact absurd (by decide) h
  · omega
theorem k_layCubes2 (M : gMo) (s t : Nat) (x : Int32) (ht : t < 4) {sc : Nat × (Nat → Int32)} {n0 : Nat} {E : gO → gH → Prop} : ∀ (n i : Nat) (f : Nat → Int32) (l : Int32), i + n = 6 → (kk : gW K_Mo_layCubes sc { frames := 3, locals := 69, cells := 0, slots := 0 } n0 E 0 0 145 [(0, .ref 0), (1, .int (nI s)), (2, .int (nI t)), (3, .int x)] [] (cMo (wD M (lcR t n i f l, dG (mD M), dSz (mD M), dC (mD M), dSt (mD M), dSh (mD M), dCu (mD M), dLa (mD M), dSw (mD M), dDy (mD M), dDn (mD M), dLt (mD M), dLd (mD M), dSo (mD M))))) → gW K_Mo_layCubes sc { frames := 3, locals := 69, cells := 0, slots := 0 } n0 E 0 0 68 [(0, .ref 0), (1, .int (nI s)), (2, .int (nI t)), (3, .int x), (4, .int l), (5, .int (nI i))] [] (cMo (wD M (f, dG (mD M), dSz (mD M), dC (mD M), dSt (mD M), dSh (mD M), dCu (mD M), dLa (mD M), dSw (mD M), dDy (mD M), dDn (mD M), dLt (mD M), dLd (mD M), dSo (mD M)))) := by
  intro n
  induction n with
  | zero =>
    intro i f l hi kk
    obtain rfl : 6 = i := by omega
    refine gW_b D_Mo_layCubes 42 2 (pc' := 72) (l' := [(0, .ref 0), (1, .int (nI s)), (2, .int (nI t)), (3, .int x), (4, .int l), (5, .int (nI 6))]) (st' := [.int 6, .int (nI 6)]) (h' := cMo (wD M (f, dG (mD M), dSz (mD M), dC (mD M), dSt (mD M), dSh (mD M), dCu (mD M), dLa (mD M), dSw (mD M), dDy (mD M), dDn (mD M), dLt (mD M), dLd (mD M), dSo (mD M)))) (P := True) rfl trivial ?_
    refine gW_ic_ge (gdec_at D_Mo_layCubes 44 rfl) (tgt := 145) rfl (fun _ => ?_) (fun cq => absurd ((gle (gk 6) (rfl : nI 6 = nI 6) (by omega) (by omega)).mpr (by omega)) cq)
    refine gW_l [0, 1, 2, 3] (l' := [(0, .ref 0), (1, .int (nI s)), (2, .int (nI t)), (3, .int x)]) rfl ?_
    exact kk
  | succ n ih =>
    intro i f l hi kk
    have hb2 := tn_le f i
    refine gW_b D_Mo_layCubes 42 2 (pc' := 72) (l' := [(0, .ref 0), (1, .int (nI s)), (2, .int (nI t)), (3, .int x), (4, .int l), (5, .int (nI i))]) (st' := [.int 6, .int (nI i)]) (h' := cMo (wD M (f, dG (mD M), dSz (mD M), dC (mD M), dSt (mD M), dSh (mD M), dCu (mD M), dLa (mD M), dSw (mD M), dDy (mD M), dDn (mD M), dLt (mD M), dLd (mD M), dSo (mD M)))) (P := True) rfl trivial ?_
    refine gW_ic_ge (gdec_at D_Mo_layCubes 44 rfl) (tgt := 145) rfl (fun cq => absurd cq (mt (gle (gk 6) (rfl : nI i = nI i) (by omega) (by omega)).mp (by omega))) (fun _ => ?_)
    refine gW_b D_Mo_layCubes 45 2 (pc' := 78) (l' := [(0, .ref 0), (1, .int (nI s)), (2, .int (nI t)), (3, .int x), (4, .int l), (5, .int (nI i))]) (st' := [.int (nI i), .ref 0]) (h' := cMo (wD M (f, dG (mD M), dSz (mD M), dC (mD M), dSt (mD M), dSh (mD M), dCu (mD M), dLa (mD M), dSw (mD M), dDy (mD M), dDn (mD M), dLt (mD M), dLd (mD M), dSo (mD M)))) (P := True) rfl trivial ?_
    refine gW_callV (n_tonesIn (wD M (f, dG (mD M), dSz (mD M), dC (mD M), dSt (mD M), dSh (mD M), dCu (mD M), dLa (mD M), dSw (mD M), dDy (mD M), dDn (mD M), dLt (mD M), dLd (mD M), dSo (mD M))) i (by omega)) lk_Mo_95 [0, 1, 2, 3, 4, 5, 6] (gdec_at D_Mo_layCubes 47 rfl) (st := []) rfl rfl ⟨rfl, rfl⟩ (Nat.le_of_ble_eq_true rfl) rfl (by decide) rfl (Nat.le_of_ble_eq_true rfl) ⟨Nat.le_of_ble_eq_true rfl, Nat.le_of_ble_eq_true rfl⟩ ⟨Nat.le_of_ble_eq_true rfl, Nat.le_of_ble_eq_true rfl⟩ (gAft_r rfl rfl (h' := cMo (wD M (f, dG (mD M), dSz (mD M), dC (mD M), dSt (mD M), dSh (mD M), dCu (mD M), dLa (mD M), dSw (mD M), dDy (mD M), dDn (mD M), dLt (mD M), dLd (mD M), dSo (mD M)))) (st' := [.int (nI (tn f i))]) (pc' := 81) (cs' := 0) (ss' := 0) rfl rfl rfl rfl rfl ?_)
    refine gW_b D_Mo_layCubes 48 1 (pc' := 82) (l' := [(0, .ref 0), (1, .int (nI s)), (2, .int (nI t)), (3, .int x), (4, .int l), (5, .int (nI i))]) (st' := [.int 1, .int (nI (tn f i))]) (h' := cMo (wD M (f, dG (mD M), dSz (mD M), dC (mD M), dSt (mD M), dSh (mD M), dCu (mD M), dLa (mD M), dSw (mD M), dDy (mD M), dDn (mD M), dLt (mD M), dLd (mD M), dSo (mD M)))) (P := True) rfl trivial ?_
    refine gW_ic_le (gdec_at D_Mo_layCubes 49 rfl) (tgt := 89) rfl (fun d => ?_) (fun d => ?_)
    · have d := (gle (rfl : nI (tn f i) = nI (tn f i)) (gk 1) (by omega) (by omega)).mp d
      refine gW_b D_Mo_layCubes 52 3 (pc' := 93) (l' := [(0, .ref 0), (1, .int (nI s)), (2, .int (nI t)), (3, .int x), (4, .int l), (5, .int (nI i))]) (st' := [.int (nI t), .int (nI i), .ref 0]) (h' := cMo (wD M (f, dG (mD M), dSz (mD M), dC (mD M), dSt (mD M), dSh (mD M), dCu (mD M), dLa (mD M), dSw (mD M), dDy (mD M), dDn (mD M), dLt (mD M), dLd (mD M), dSo (mD M)))) (P := True) rfl trivial ?_
      refine gW_callV (n_cubes (wD M (f, dG (mD M), dSz (mD M), dC (mD M), dSt (mD M), dSh (mD M), dCu (mD M), dLa (mD M), dSw (mD M), dDy (mD M), dDn (mD M), dLt (mD M), dLd (mD M), dSo (mD M))) i t (by omega) (by omega)) lk_Mo_39 [0, 1, 2, 3, 4, 5, 6] (gdec_at D_Mo_layCubes 55 rfl) (st := []) rfl rfl ⟨rfl, rfl⟩ (Nat.le_of_ble_eq_true rfl) rfl (by decide) rfl (Nat.le_of_ble_eq_true rfl) ⟨Nat.le_of_ble_eq_true rfl, Nat.le_of_ble_eq_true rfl⟩ ⟨Nat.le_of_ble_eq_true rfl, Nat.le_of_ble_eq_true rfl⟩ (gAft_r rfl rfl (h' := cMo (wD M (f, dG (mD M), dSz (mD M), dC (mD M), dSt (mD M), dSh (mD M), dCu (mD M), dLa (mD M), dSw (mD M), dDy (mD M), dDn (mD M), dLt (mD M), dLd (mD M), dSo (mD M)))) (st' := [.int (f (i * 4 + t))]) (pc' := 96) (cs' := 0) (ss' := 0) rfl rfl rfl rfl rfl ?_)
      refine gW_b D_Mo_layCubes 56 3 (pc' := 102) (l' := [(0, .ref 0), (1, .int (nI s)), (2, .int (nI t)), (3, .int x), (4, .int l), (5, .int (nI i)), (6, .int (f (i * 4 + t)))]) (st' := [.int l, .int (f (i * 4 + t))]) (h' := cMo (wD M (f, dG (mD M), dSz (mD M), dC (mD M), dSt (mD M), dSh (mD M), dCu (mD M), dLa (mD M), dSw (mD M), dDy (mD M), dDn (mD M), dLt (mD M), dLd (mD M), dSo (mD M)))) (P := True) rfl trivial ?_
      refine gW_ic_ge (gdec_at D_Mo_layCubes 59 rfl) (tgt := 110) rfl (fun e => ?_) (fun e => ?_)
      · skip
        refine gW_b D_Mo_layCubes 62 2 (pc' := 114) (l' := [(0, .ref 0), (1, .int (nI s)), (2, .int (nI t)), (3, .int x), (4, .int l), (5, .int (nI i)), (6, .int l)]) (st' := []) (h' := cMo (wD M (f, dG (mD M), dSz (mD M), dC (mD M), dSt (mD M), dSh (mD M), dCu (mD M), dLa (mD M), dSw (mD M), dDy (mD M), dDn (mD M), dLt (mD M), dLd (mD M), dSo (mD M)))) (P := True) rfl trivial ?_
        have hh : lcH f i t l = l := by unfold lcH lyA; rw [if_pos d, if_pos e]
        refine gW_b D_Mo_layCubes 64 11 (pc' := 128) (l' := [(0, .ref 0), (1, .int (nI s)), (2, .int (nI t)), (3, .int x), (4, .int l), (5, .int (nI i)), (6, .int l)]) (st' := [.int (zD (f, dG (mD M), dSz (mD M), dC (mD M), dSt (mD M), dSh (mD M), dCu (mD M), dLa (mD M), dSw (mD M), dDy (mD M), dDn (mD M), dLt (mD M), dLd (mD M), dSo (mD M)) ((4 + (4 * (nI i))) + (nI t)).toNatClampNeg), .int ((4 + (4 * (nI i))) + (nI t)), .ref 1]) (h' := cMo (wD M (f, dG (mD M), dSz (mD M), dC (mD M), dSt (mD M), dSh (mD M), dCu (mD M), dLa (mD M), dSw (mD M), dDy (mD M), dDn (mD M), dLt (mD M), dLd (mD M), dSo (mD M)))) (P := vp_in ((4 + (4 * (nI i))) + (nI t)) 103 ∧ True) rfl ⟨(gvin (gadd (gadd (gk 4) (gmul (gk 4) (rfl : nI i = nI i))) (rfl : nI t = nI t)) (by omega) (by omega)), trivial⟩ ?_
        rw [show ((4 + (4 * (nI i))) + (nI t)).toNatClampNeg = ((4 + (4 * i)) + t) from gclp (gadd (gadd (gk 4) (gmul (gk 4) (rfl : nI i = nI i))) (rfl : nI t = nI t)) (by omega)]
        rw [show (zD (f, dG (mD M), dSz (mD M), dC (mD M), dSt (mD M), dSh (mD M), dCu (mD M), dLa (mD M), dSw (mD M), dDy (mD M), dDn (mD M), dLt (mD M), dLd (mD M), dSo (mD M)) ((4 + (4 * i)) + t) : Int32) = f (i * 4 + t) from zr_tr (f, dG (mD M), dSz (mD M), dC (mD M), dSt (mD M), dSh (mD M), dCu (mD M), dLa (mD M), dSw (mD M), dDy (mD M), dDn (mD M), dLt (mD M), dLd (mD M), dSo (mD M)) i t (by omega) (by omega)]
        refine gW_b D_Mo_layCubes 75 3 (pc' := 132) (l' := [(0, .ref 0), (1, .int (nI s)), (2, .int (nI t)), (3, .int x), (4, .int l), (5, .int (nI i)), (6, .int l)]) (st' := []) (h' := [cO 6 [.int (mTh M), .ref 1, .ref 2, .int (nI (mN M)), .ref 3, .ref 4, .int (nI (mTy M)), .ref 5, .int (nI (mSt M)), .ref 6, .int (nI (mPm M)), .int (nI (mSpt M)), .int (mWr M), .long (mHs M)], cI 103 (upd (zD (f, dG (mD M), dSz (mD M), dC (mD M), dSt (mD M), dSh (mD M), dCu (mD M), dLa (mD M), dSw (mD M), dDy (mD M), dDn (mD M), dLt (mD M), dLd (mD M), dSo (mD M))) (((4 + (4 * (nI i))) + (nI t)).toNatClampNeg) ((f (i * 4 + t)) - l)), cI 618 (svF (mDs M)), cI 103 (zD (mSp M)), cI 60 (mBf M), cI 10 (oF (mOd M)), cI 39 (mPa M)]) (P := vp_in ((4 + (4 * (nI i))) + (nI t)) 103 ∧ True) rfl ⟨(gvin (gadd (gadd (gk 4) (gmul (gk 4) (rfl : nI i = nI i))) (rfl : nI t = nI t)) (by omega) (by omega)), trivial⟩ ?_
        rw [show ((4 + (4 * (nI i))) + (nI t)).toNatClampNeg = ((4 + (4 * i)) + t) from gclp (gadd (gadd (gk 4) (gmul (gk 4) (rfl : nI i = nI i))) (rfl : nI t = nI t)) (by omega)]
        rw [show upd (zD (f, dG (mD M), dSz (mD M), dC (mD M), dSt (mD M), dSh (mD M), dCu (mD M), dLa (mD M), dSw (mD M), dDy (mD M), dDn (mD M), dLt (mD M), dLd (mD M), dSo (mD M))) ((4 + (4 * i)) + t) ((f (i * 4 + t)) - l) = zD (upd f (i * 4 + t) ((f (i * 4 + t)) - l), dG (mD M), dSz (mD M), dC (mD M), dSt (mD M), dSh (mD M), dCu (mD M), dLa (mD M), dSw (mD M), dDy (mD M), dDn (mD M), dLt (mD M), dLd (mD M), dSo (mD M)) from zu_tr (f, dG (mD M), dSz (mD M), dC (mD M), dSt (mD M), dSh (mD M), dCu (mD M), dLa (mD M), dSw (mD M), dDy (mD M), dDn (mD M), dLt (mD M), dLd (mD M), dSo (mD M)) i t (by omega) (by omega) ((f (i * 4 + t)) - l)]
        refine gW_b D_Mo_layCubes 78 6 (pc' := 68) (l' := [(0, .ref 0), (1, .int (nI s)), (2, .int (nI t)), (3, .int x), (4, .int (l - l)), (5, .int ((nI i) + 1)), (6, .int l)]) (st' := []) (h' := cMo (wD M (upd f (i * 4 + t) ((f (i * 4 + t)) - l), dG (mD M), dSz (mD M), dC (mD M), dSt (mD M), dSh (mD M), dCu (mD M), dLa (mD M), dSw (mD M), dDy (mD M), dDn (mD M), dLt (mD M), dLd (mD M), dSo (mD M)))) (P := True) rfl trivial ?_
        rw [show ((nI i) + 1 : Int32) = nI (i + 1) from (gadd (rfl : nI i = nI i) (gk 1))]
        refine gW_l [0, 1, 2, 3, 4, 5] (l' := [(0, .ref 0), (1, .int (nI s)), (2, .int (nI t)), (3, .int x), (4, .int (l - l)), (5, .int (nI (i + 1)))]) rfl ?_
        rw [show lcR t (n + 1) i f l = lcR t n (i + 1) (upd f (i * 4 + t) (f (i * 4 + t) - l)) (l - l) from lcR_st hh] at kk
        exact ih (i + 1) _ _ (by omega) kk
      · skip
        refine gW_b D_Mo_layCubes 60 2 (pc' := 112) (l' := [(0, .ref 0), (1, .int (nI s)), (2, .int (nI t)), (3, .int x), (4, .int l), (5, .int (nI i)), (6, .int (f (i * 4 + t)))]) (st' := [.int (f (i * 4 + t))]) (h' := cMo (wD M (f, dG (mD M), dSz (mD M), dC (mD M), dSt (mD M), dSh (mD M), dCu (mD M), dLa (mD M), dSw (mD M), dDy (mD M), dDn (mD M), dLt (mD M), dLd (mD M), dSo (mD M)))) (P := True) rfl trivial ?_
        refine gW_b D_Mo_layCubes 63 1 (pc' := 114) (l' := [(0, .ref 0), (1, .int (nI s)), (2, .int (nI t)), (3, .int x), (4, .int l), (5, .int (nI i)), (6, .int (f (i * 4 + t)))]) (st' := []) (h' := cMo (wD M (f, dG (mD M), dSz (mD M), dC (mD M), dSt (mD M), dSh (mD M), dCu (mD M), dLa (mD M), dSw (mD M), dDy (mD M), dDn (mD M), dLt (mD M), dLd (mD M), dSo (mD M)))) (P := True) rfl trivial ?_
        have hh : lcH f i t l = f (i * 4 + t) := by unfold lcH lyA; rw [if_pos d, if_neg e]
        refine gW_b D_Mo_layCubes 64 11 (pc' := 128) (l' := [(0, .ref 0), (1, .int (nI s)), (2, .int (nI t)), (3, .int x), (4, .int l), (5, .int (nI i)), (6, .int (f (i * 4 + t)))]) (st' := [.int (zD (f, dG (mD M), dSz (mD M), dC (mD M), dSt (mD M), dSh (mD M), dCu (mD M), dLa (mD M), dSw (mD M), dDy (mD M), dDn (mD M), dLt (mD M), dLd (mD M), dSo (mD M)) ((4 + (4 * (nI i))) + (nI t)).toNatClampNeg), .int ((4 + (4 * (nI i))) + (nI t)), .ref 1]) (h' := cMo (wD M (f, dG (mD M), dSz (mD M), dC (mD M), dSt (mD M), dSh (mD M), dCu (mD M), dLa (mD M), dSw (mD M), dDy (mD M), dDn (mD M), dLt (mD M), dLd (mD M), dSo (mD M)))) (P := vp_in ((4 + (4 * (nI i))) + (nI t)) 103 ∧ True) rfl ⟨(gvin (gadd (gadd (gk 4) (gmul (gk 4) (rfl : nI i = nI i))) (rfl : nI t = nI t)) (by omega) (by omega)), trivial⟩ ?_
        rw [show ((4 + (4 * (nI i))) + (nI t)).toNatClampNeg = ((4 + (4 * i)) + t) from gclp (gadd (gadd (gk 4) (gmul (gk 4) (rfl : nI i = nI i))) (rfl : nI t = nI t)) (by omega)]
        rw [show (zD (f, dG (mD M), dSz (mD M), dC (mD M), dSt (mD M), dSh (mD M), dCu (mD M), dLa (mD M), dSw (mD M), dDy (mD M), dDn (mD M), dLt (mD M), dLd (mD M), dSo (mD M)) ((4 + (4 * i)) + t) : Int32) = f (i * 4 + t) from zr_tr (f, dG (mD M), dSz (mD M), dC (mD M), dSt (mD M), dSh (mD M), dCu (mD M), dLa (mD M), dSw (mD M), dDy (mD M), dDn (mD M), dLt (mD M), dLd (mD M), dSo (mD M)) i t (by omega) (by omega)]
        refine gW_b D_Mo_layCubes 75 3 (pc' := 132) (l' := [(0, .ref 0), (1, .int (nI s)), (2, .int (nI t)), (3, .int x), (4, .int l), (5, .int (nI i)), (6, .int (f (i * 4 + t)))]) (st' := []) (h' := [cO 6 [.int (mTh M), .ref 1, .ref 2, .int (nI (mN M)), .ref 3, .ref 4, .int (nI (mTy M)), .ref 5, .int (nI (mSt M)), .ref 6, .int (nI (mPm M)), .int (nI (mSpt M)), .int (mWr M), .long (mHs M)], cI 103 (upd (zD (f, dG (mD M), dSz (mD M), dC (mD M), dSt (mD M), dSh (mD M), dCu (mD M), dLa (mD M), dSw (mD M), dDy (mD M), dDn (mD M), dLt (mD M), dLd (mD M), dSo (mD M))) (((4 + (4 * (nI i))) + (nI t)).toNatClampNeg) ((f (i * 4 + t)) - (f (i * 4 + t)))), cI 618 (svF (mDs M)), cI 103 (zD (mSp M)), cI 60 (mBf M), cI 10 (oF (mOd M)), cI 39 (mPa M)]) (P := vp_in ((4 + (4 * (nI i))) + (nI t)) 103 ∧ True) rfl ⟨(gvin (gadd (gadd (gk 4) (gmul (gk 4) (rfl : nI i = nI i))) (rfl : nI t = nI t)) (by omega) (by omega)), trivial⟩ ?_
        rw [show ((4 + (4 * (nI i))) + (nI t)).toNatClampNeg = ((4 + (4 * i)) + t) from gclp (gadd (gadd (gk 4) (gmul (gk 4) (rfl : nI i = nI i))) (rfl : nI t = nI t)) (by omega)]
        rw [show upd (zD (f, dG (mD M), dSz (mD M), dC (mD M), dSt (mD M), dSh (mD M), dCu (mD M), dLa (mD M), dSw (mD M), dDy (mD M), dDn (mD M), dLt (mD M), dLd (mD M), dSo (mD M))) ((4 + (4 * i)) + t) ((f (i * 4 + t)) - (f (i * 4 + t))) = zD (upd f (i * 4 + t) ((f (i * 4 + t)) - (f (i * 4 + t))), dG (mD M), dSz (mD M), dC (mD M), dSt (mD M), dSh (mD M), dCu (mD M), dLa (mD M), dSw (mD M), dDy (mD M), dDn (mD M), dLt (mD M), dLd (mD M), dSo (mD M)) from zu_tr (f, dG (mD M), dSz (mD M), dC (mD M), dSt (mD M), dSh (mD M), dCu (mD M), dLa (mD M), dSw (mD M), dDy (mD M), dDn (mD M), dLt (mD M), dLd (mD M), dSo (mD M)) i t (by omega) (by omega) ((f (i * 4 + t)) - (f (i * 4 + t)))]
        refine gW_b D_Mo_layCubes 78 6 (pc' := 68) (l' := [(0, .ref 0), (1, .int (nI s)), (2, .int (nI t)), (3, .int x), (4, .int (l - (f (i * 4 + t)))), (5, .int ((nI i) + 1)), (6, .int (f (i * 4 + t)))]) (st' := []) (h' := cMo (wD M (upd f (i * 4 + t) ((f (i * 4 + t)) - (f (i * 4 + t))), dG (mD M), dSz (mD M), dC (mD M), dSt (mD M), dSh (mD M), dCu (mD M), dLa (mD M), dSw (mD M), dDy (mD M), dDn (mD M), dLt (mD M), dLd (mD M), dSo (mD M)))) (P := True) rfl trivial ?_
        rw [show ((nI i) + 1 : Int32) = nI (i + 1) from (gadd (rfl : nI i = nI i) (gk 1))]
        refine gW_l [0, 1, 2, 3, 4, 5] (l' := [(0, .ref 0), (1, .int (nI s)), (2, .int (nI t)), (3, .int x), (4, .int (l - (f (i * 4 + t)))), (5, .int (nI (i + 1)))]) rfl ?_
        rw [show lcR t (n + 1) i f l = lcR t n (i + 1) (upd f (i * 4 + t) (f (i * 4 + t) - (f (i * 4 + t)))) (l - (f (i * 4 + t))) from lcR_st hh] at kk
        exact ih (i + 1) _ _ (by omega) kk
    · have d := mt (gle (rfl : nI (tn f i) = nI (tn f i)) (gk 1) (by omega) (by omega)).mpr d
      refine gW_b D_Mo_layCubes 50 2 (pc' := 96) (l' := [(0, .ref 0), (1, .int (nI s)), (2, .int (nI t)), (3, .int x), (4, .int l), (5, .int (nI i))]) (st' := [.int 0]) (h' := cMo (wD M (f, dG (mD M), dSz (mD M), dC (mD M), dSt (mD M), dSh (mD M), dCu (mD M), dLa (mD M), dSw (mD M), dDy (mD M), dDn (mD M), dLt (mD M), dLd (mD M), dSo (mD M)))) (P := True) rfl trivial ?_
      refine gW_b D_Mo_layCubes 56 3 (pc' := 102) (l' := [(0, .ref 0), (1, .int (nI s)), (2, .int (nI t)), (3, .int x), (4, .int l), (5, .int (nI i)), (6, .int 0)]) (st' := [.int l, .int 0]) (h' := cMo (wD M (f, dG (mD M), dSz (mD M), dC (mD M), dSt (mD M), dSh (mD M), dCu (mD M), dLa (mD M), dSw (mD M), dDy (mD M), dDn (mD M), dLt (mD M), dLd (mD M), dSo (mD M)))) (P := True) rfl trivial ?_
      refine gW_ic_ge (gdec_at D_Mo_layCubes 59 rfl) (tgt := 110) rfl (fun e => ?_) (fun e => ?_)
      · skip
        refine gW_b D_Mo_layCubes 62 2 (pc' := 114) (l' := [(0, .ref 0), (1, .int (nI s)), (2, .int (nI t)), (3, .int x), (4, .int l), (5, .int (nI i)), (6, .int l)]) (st' := []) (h' := cMo (wD M (f, dG (mD M), dSz (mD M), dC (mD M), dSt (mD M), dSh (mD M), dCu (mD M), dLa (mD M), dSw (mD M), dDy (mD M), dDn (mD M), dLt (mD M), dLd (mD M), dSo (mD M)))) (P := True) rfl trivial ?_
        have hh : lcH f i t l = l := by unfold lcH lyA; rw [if_neg d, if_pos e]
        refine gW_b D_Mo_layCubes 64 11 (pc' := 128) (l' := [(0, .ref 0), (1, .int (nI s)), (2, .int (nI t)), (3, .int x), (4, .int l), (5, .int (nI i)), (6, .int l)]) (st' := [.int (zD (f, dG (mD M), dSz (mD M), dC (mD M), dSt (mD M), dSh (mD M), dCu (mD M), dLa (mD M), dSw (mD M), dDy (mD M), dDn (mD M), dLt (mD M), dLd (mD M), dSo (mD M)) ((4 + (4 * (nI i))) + (nI t)).toNatClampNeg), .int ((4 + (4 * (nI i))) + (nI t)), .ref 1]) (h' := cMo (wD M (f, dG (mD M), dSz (mD M), dC (mD M), dSt (mD M), dSh (mD M), dCu (mD M), dLa (mD M), dSw (mD M), dDy (mD M), dDn (mD M), dLt (mD M), dLd (mD M), dSo (mD M)))) (P := vp_in ((4 + (4 * (nI i))) + (nI t)) 103 ∧ True) rfl ⟨(gvin (gadd (gadd (gk 4) (gmul (gk 4) (rfl : nI i = nI i))) (rfl : nI t = nI t)) (by omega) (by omega)), trivial⟩ ?_
        rw [show ((4 + (4 * (nI i))) + (nI t)).toNatClampNeg = ((4 + (4 * i)) + t) from gclp (gadd (gadd (gk 4) (gmul (gk 4) (rfl : nI i = nI i))) (rfl : nI t = nI t)) (by omega)]
        rw [show (zD (f, dG (mD M), dSz (mD M), dC (mD M), dSt (mD M), dSh (mD M), dCu (mD M), dLa (mD M), dSw (mD M), dDy (mD M), dDn (mD M), dLt (mD M), dLd (mD M), dSo (mD M)) ((4 + (4 * i)) + t) : Int32) = f (i * 4 + t) from zr_tr (f, dG (mD M), dSz (mD M), dC (mD M), dSt (mD M), dSh (mD M), dCu (mD M), dLa (mD M), dSw (mD M), dDy (mD M), dDn (mD M), dLt (mD M), dLd (mD M), dSo (mD M)) i t (by omega) (by omega)]
        refine gW_b D_Mo_layCubes 75 3 (pc' := 132) (l' := [(0, .ref 0), (1, .int (nI s)), (2, .int (nI t)), (3, .int x), (4, .int l), (5, .int (nI i)), (6, .int l)]) (st' := []) (h' := [cO 6 [.int (mTh M), .ref 1, .ref 2, .int (nI (mN M)), .ref 3, .ref 4, .int (nI (mTy M)), .ref 5, .int (nI (mSt M)), .ref 6, .int (nI (mPm M)), .int (nI (mSpt M)), .int (mWr M), .long (mHs M)], cI 103 (upd (zD (f, dG (mD M), dSz (mD M), dC (mD M), dSt (mD M), dSh (mD M), dCu (mD M), dLa (mD M), dSw (mD M), dDy (mD M), dDn (mD M), dLt (mD M), dLd (mD M), dSo (mD M))) (((4 + (4 * (nI i))) + (nI t)).toNatClampNeg) ((f (i * 4 + t)) - l)), cI 618 (svF (mDs M)), cI 103 (zD (mSp M)), cI 60 (mBf M), cI 10 (oF (mOd M)), cI 39 (mPa M)]) (P := vp_in ((4 + (4 * (nI i))) + (nI t)) 103 ∧ True) rfl ⟨(gvin (gadd (gadd (gk 4) (gmul (gk 4) (rfl : nI i = nI i))) (rfl : nI t = nI t)) (by omega) (by omega)), trivial⟩ ?_
        rw [show ((4 + (4 * (nI i))) + (nI t)).toNatClampNeg = ((4 + (4 * i)) + t) from gclp (gadd (gadd (gk 4) (gmul (gk 4) (rfl : nI i = nI i))) (rfl : nI t = nI t)) (by omega)]
        rw [show upd (zD (f, dG (mD M), dSz (mD M), dC (mD M), dSt (mD M), dSh (mD M), dCu (mD M), dLa (mD M), dSw (mD M), dDy (mD M), dDn (mD M), dLt (mD M), dLd (mD M), dSo (mD M))) ((4 + (4 * i)) + t) ((f (i * 4 + t)) - l) = zD (upd f (i * 4 + t) ((f (i * 4 + t)) - l), dG (mD M), dSz (mD M), dC (mD M), dSt (mD M), dSh (mD M), dCu (mD M), dLa (mD M), dSw (mD M), dDy (mD M), dDn (mD M), dLt (mD M), dLd (mD M), dSo (mD M)) from zu_tr (f, dG (mD M), dSz (mD M), dC (mD M), dSt (mD M), dSh (mD M), dCu (mD M), dLa (mD M), dSw (mD M), dDy (mD M), dDn (mD M), dLt (mD M), dLd (mD M), dSo (mD M)) i t (by omega) (by omega) ((f (i * 4 + t)) - l)]
        refine gW_b D_Mo_layCubes 78 6 (pc' := 68) (l' := [(0, .ref 0), (1, .int (nI s)), (2, .int (nI t)), (3, .int x), (4, .int (l - l)), (5, .int ((nI i) + 1)), (6, .int l)]) (st' := []) (h' := cMo (wD M (upd f (i * 4 + t) ((f (i * 4 + t)) - l), dG (mD M), dSz (mD M), dC (mD M), dSt (mD M), dSh (mD M), dCu (mD M), dLa (mD M), dSw (mD M), dDy (mD M), dDn (mD M), dLt (mD M), dLd (mD M), dSo (mD M)))) (P := True) rfl trivial ?_
        rw [show ((nI i) + 1 : Int32) = nI (i + 1) from (gadd (rfl : nI i = nI i) (gk 1))]
        refine gW_l [0, 1, 2, 3, 4, 5] (l' := [(0, .ref 0), (1, .int (nI s)), (2, .int (nI t)), (3, .int x), (4, .int (l - l)), (5, .int (nI (i + 1)))]) rfl ?_
        rw [show lcR t (n + 1) i f l = lcR t n (i + 1) (upd f (i * 4 + t) (f (i * 4 + t) - l)) (l - l) from lcR_st hh] at kk
        exact ih (i + 1) _ _ (by omega) kk
      · skip
        refine gW_b D_Mo_layCubes 60 2 (pc' := 112) (l' := [(0, .ref 0), (1, .int (nI s)), (2, .int (nI t)), (3, .int x), (4, .int l), (5, .int (nI i)), (6, .int 0)]) (st' := [.int 0]) (h' := cMo (wD M (f, dG (mD M), dSz (mD M), dC (mD M), dSt (mD M), dSh (mD M), dCu (mD M), dLa (mD M), dSw (mD M), dDy (mD M), dDn (mD M), dLt (mD M), dLd (mD M), dSo (mD M)))) (P := True) rfl trivial ?_
        refine gW_b D_Mo_layCubes 63 1 (pc' := 114) (l' := [(0, .ref 0), (1, .int (nI s)), (2, .int (nI t)), (3, .int x), (4, .int l), (5, .int (nI i)), (6, .int 0)]) (st' := []) (h' := cMo (wD M (f, dG (mD M), dSz (mD M), dC (mD M), dSt (mD M), dSh (mD M), dCu (mD M), dLa (mD M), dSw (mD M), dDy (mD M), dDn (mD M), dLt (mD M), dLd (mD M), dSo (mD M)))) (P := True) rfl trivial ?_
        have hh : lcH f i t l = 0 := by unfold lcH lyA; rw [if_neg d, if_neg e]
        refine gW_b D_Mo_layCubes 64 11 (pc' := 128) (l' := [(0, .ref 0), (1, .int (nI s)), (2, .int (nI t)), (3, .int x), (4, .int l), (5, .int (nI i)), (6, .int 0)]) (st' := [.int (zD (f, dG (mD M), dSz (mD M), dC (mD M), dSt (mD M), dSh (mD M), dCu (mD M), dLa (mD M), dSw (mD M), dDy (mD M), dDn (mD M), dLt (mD M), dLd (mD M), dSo (mD M)) ((4 + (4 * (nI i))) + (nI t)).toNatClampNeg), .int ((4 + (4 * (nI i))) + (nI t)), .ref 1]) (h' := cMo (wD M (f, dG (mD M), dSz (mD M), dC (mD M), dSt (mD M), dSh (mD M), dCu (mD M), dLa (mD M), dSw (mD M), dDy (mD M), dDn (mD M), dLt (mD M), dLd (mD M), dSo (mD M)))) (P := vp_in ((4 + (4 * (nI i))) + (nI t)) 103 ∧ True) rfl ⟨(gvin (gadd (gadd (gk 4) (gmul (gk 4) (rfl : nI i = nI i))) (rfl : nI t = nI t)) (by omega) (by omega)), trivial⟩ ?_
        rw [show ((4 + (4 * (nI i))) + (nI t)).toNatClampNeg = ((4 + (4 * i)) + t) from gclp (gadd (gadd (gk 4) (gmul (gk 4) (rfl : nI i = nI i))) (rfl : nI t = nI t)) (by omega)]
        rw [show (zD (f, dG (mD M), dSz (mD M), dC (mD M), dSt (mD M), dSh (mD M), dCu (mD M), dLa (mD M), dSw (mD M), dDy (mD M), dDn (mD M), dLt (mD M), dLd (mD M), dSo (mD M)) ((4 + (4 * i)) + t) : Int32) = f (i * 4 + t) from zr_tr (f, dG (mD M), dSz (mD M), dC (mD M), dSt (mD M), dSh (mD M), dCu (mD M), dLa (mD M), dSw (mD M), dDy (mD M), dDn (mD M), dLt (mD M), dLd (mD M), dSo (mD M)) i t (by omega) (by omega)]
        refine gW_b D_Mo_layCubes 75 3 (pc' := 132) (l' := [(0, .ref 0), (1, .int (nI s)), (2, .int (nI t)), (3, .int x), (4, .int l), (5, .int (nI i)), (6, .int 0)]) (st' := []) (h' := [cO 6 [.int (mTh M), .ref 1, .ref 2, .int (nI (mN M)), .ref 3, .ref 4, .int (nI (mTy M)), .ref 5, .int (nI (mSt M)), .ref 6, .int (nI (mPm M)), .int (nI (mSpt M)), .int (mWr M), .long (mHs M)], cI 103 (upd (zD (f, dG (mD M), dSz (mD M), dC (mD M), dSt (mD M), dSh (mD M), dCu (mD M), dLa (mD M), dSw (mD M), dDy (mD M), dDn (mD M), dLt (mD M), dLd (mD M), dSo (mD M))) (((4 + (4 * (nI i))) + (nI t)).toNatClampNeg) ((f (i * 4 + t)) - 0)), cI 618 (svF (mDs M)), cI 103 (zD (mSp M)), cI 60 (mBf M), cI 10 (oF (mOd M)), cI 39 (mPa M)]) (P := vp_in ((4 + (4 * (nI i))) + (nI t)) 103 ∧ True) rfl ⟨(gvin (gadd (gadd (gk 4) (gmul (gk 4) (rfl : nI i = nI i))) (rfl : nI t = nI t)) (by omega) (by omega)), trivial⟩ ?_
        rw [show ((4 + (4 * (nI i))) + (nI t)).toNatClampNeg = ((4 + (4 * i)) + t) from gclp (gadd (gadd (gk 4) (gmul (gk 4) (rfl : nI i = nI i))) (rfl : nI t = nI t)) (by omega)]
        rw [show upd (zD (f, dG (mD M), dSz (mD M), dC (mD M), dSt (mD M), dSh (mD M), dCu (mD M), dLa (mD M), dSw (mD M), dDy (mD M), dDn (mD M), dLt (mD M), dLd (mD M), dSo (mD M))) ((4 + (4 * i)) + t) ((f (i * 4 + t)) - 0) = zD (upd f (i * 4 + t) ((f (i * 4 + t)) - 0), dG (mD M), dSz (mD M), dC (mD M), dSt (mD M), dSh (mD M), dCu (mD M), dLa (mD M), dSw (mD M), dDy (mD M), dDn (mD M), dLt (mD M), dLd (mD M), dSo (mD M)) from zu_tr (f, dG (mD M), dSz (mD M), dC (mD M), dSt (mD M), dSh (mD M), dCu (mD M), dLa (mD M), dSw (mD M), dDy (mD M), dDn (mD M), dLt (mD M), dLd (mD M), dSo (mD M)) i t (by omega) (by omega) ((f (i * 4 + t)) - 0)]
        refine gW_b D_Mo_layCubes 78 6 (pc' := 68) (l' := [(0, .ref 0), (1, .int (nI s)), (2, .int (nI t)), (3, .int x), (4, .int (l - 0)), (5, .int ((nI i) + 1)), (6, .int 0)]) (st' := []) (h' := cMo (wD M (upd f (i * 4 + t) ((f (i * 4 + t)) - 0), dG (mD M), dSz (mD M), dC (mD M), dSt (mD M), dSh (mD M), dCu (mD M), dLa (mD M), dSw (mD M), dDy (mD M), dDn (mD M), dLt (mD M), dLd (mD M), dSo (mD M)))) (P := True) rfl trivial ?_
        rw [show ((nI i) + 1 : Int32) = nI (i + 1) from (gadd (rfl : nI i = nI i) (gk 1))]
        refine gW_l [0, 1, 2, 3, 4, 5] (l' := [(0, .ref 0), (1, .int (nI s)), (2, .int (nI t)), (3, .int x), (4, .int (l - 0)), (5, .int (nI (i + 1)))]) rfl ?_
        rw [show lcR t (n + 1) i f l = lcR t n (i + 1) (upd f (i * 4 + t) (f (i * 4 + t) - 0)) (l - 0) from lcR_st hh] at kk
        exact ih (i + 1) _ _ (by omega) kk
theorem k_layCubes3 (M : gMo) (s t : Nat) (n : Int32) (hs : s < 10) (ht : t < 4) {sc : Nat × (Nat → Int32)} {n0 : Nat} (hn0 : n0 ≤ 7) : gW K_Mo_layCubes sc { frames := 3, locals := 69, cells := 0, slots := 0 } n0 (gD (.inl (some (.int (n - brkI (dSt (mD M) 5) n)))) (cMo (wD M (lyE (mD M) s t n (brkI (dSt (mD M) 5) n))))) 0 0 62 [(0, .ref 0), (1, .int (nI s)), (2, .int (nI t)), (3, .int n)] [] (cMo M) := by
  refine gW_b D_Mo_layCubes 38 4 (pc' := 68) (l' := [(0, .ref 0), (1, .int (nI s)), (2, .int (nI t)), (3, .int n), (4, .int n), (5, .int 0)]) (st' := []) (h' := cMo M) (P := True) rfl trivial ?_
  refine k_layCubes2 M s t n ht 6 0 (dTr (mD M)) n rfl ?_
  refine gW_b D_Mo_layCubes 84 3 (pc' := 148) (l' := [(0, .ref 0), (1, .int (nI s)), (2, .int (nI t)), (3, .int n)]) (st' := [.int n, .ref 0, .int n]) (h' := cMo (wD M (lcR t 6 0 (dTr (mD M)) n, dG (mD M), dSz (mD M), dC (mD M), dSt (mD M), dSh (mD M), dCu (mD M), dLa (mD M), dSw (mD M), dDy (mD M), dDn (mD M), dLt (mD M), dLd (mD M), dSo (mD M)))) (P := True) rfl trivial ?_
  refine gW_callV (n_broken (wD M (lcR t 6 0 (dTr (mD M)) n, dG (mD M), dSz (mD M), dC (mD M), dSt (mD M), dSh (mD M), dCu (mD M), dLa (mD M), dSw (mD M), dDy (mD M), dDn (mD M), dLt (mD M), dLd (mD M), dSo (mD M))) n ) lk_Mo_92 [0, 1, 2, 3, 4, 5, 6] (gdec_at D_Mo_layCubes 87 rfl) (st := [.int n]) rfl rfl ⟨rfl, rfl⟩ (Nat.le_of_ble_eq_true rfl) rfl (by decide) rfl (Nat.le_of_ble_eq_true rfl) ⟨Nat.le_of_ble_eq_true rfl, Nat.le_of_ble_eq_true rfl⟩ ⟨Nat.le_of_ble_eq_true rfl, Nat.le_of_ble_eq_true rfl⟩ (gAft_r rfl rfl (h' := cMo (wD M (lcR t 6 0 (dTr (mD M)) n, dG (mD M), dSz (mD M), dC (mD M), dSt (mD M), dSh (mD M), dCu (mD M), dLa (mD M), dSw (mD M), dDy (mD M), dDn (mD M), dLt (mD M), dLd (mD M), dSo (mD M)))) (st' := [.int (brkI ((dSt (mD M)) 5) n), .int n]) (pc' := 151) (cs' := 0) (ss' := 0) rfl rfl rfl rfl rfl ?_)
  refine gW_b D_Mo_layCubes 88 9 (pc' := 164) (l' := [(0, .ref 0), (1, .int (nI s)), (2, .int (nI t)), (3, .int n), (5, .int (n - (brkI ((dSt (mD M)) 5) n)))]) (st' := [.int (zD (lcR t 6 0 (dTr (mD M)) n, dG (mD M), dSz (mD M), dC (mD M), dSt (mD M), dSh (mD M), dCu (mD M), dLa (mD M), dSw (mD M), dDy (mD M), dDn (mD M), dLt (mD M), dLd (mD M), dSo (mD M)) (43 + (nI t)).toNatClampNeg), .int (43 + (nI t)), .ref 1]) (h' := cMo (wD M (lcR t 6 0 (dTr (mD M)) n, dG (mD M), dSz (mD M), dC (mD M), dSt (mD M), dSh (mD M), dCu (mD M), dLa (mD M), dSw (mD M), dDy (mD M), dDn (mD M), dLt (mD M), dLd (mD M), dSo (mD M)))) (P := vp_in (43 + (nI t)) 103 ∧ True) rfl ⟨(gvin (gadd (gk 43) (rfl : nI t = nI t)) (by omega) (by omega)), trivial⟩ ?_
  rw [show (43 + (nI t)).toNatClampNeg = (43 + t) from gclp (gadd (gk 43) (rfl : nI t = nI t)) (by omega)]
  rw [show (zD (lcR t 6 0 (dTr (mD M)) n, dG (mD M), dSz (mD M), dC (mD M), dSt (mD M), dSh (mD M), dCu (mD M), dLa (mD M), dSw (mD M), dDy (mD M), dDn (mD M), dLt (mD M), dLd (mD M), dSo (mD M)) (43 + t) : Int32) = (dSw (mD M)) (t) from zr_sw (lcR t 6 0 (dTr (mD M)) n, dG (mD M), dSz (mD M), dC (mD M), dSt (mD M), dSh (mD M), dCu (mD M), dLa (mD M), dSw (mD M), dDy (mD M), dDn (mD M), dLt (mD M), dLd (mD M), dSo (mD M)) t (by omega)]
  refine gW_b D_Mo_layCubes 97 2 (pc' := 166) (l' := [(0, .ref 0), (1, .int (nI s)), (2, .int (nI t)), (3, .int n), (5, .int (n - (brkI ((dSt (mD M)) 5) n)))]) (st' := [.int n, .ref 0, .int ((dSw (mD M)) (t)), .int (43 + (nI t)), .ref 1]) (h' := cMo (wD M (lcR t 6 0 (dTr (mD M)) n, dG (mD M), dSz (mD M), dC (mD M), dSt (mD M), dSh (mD M), dCu (mD M), dLa (mD M), dSw (mD M), dDy (mD M), dDn (mD M), dLt (mD M), dLd (mD M), dSo (mD M)))) (P := True) rfl trivial ?_
  refine gW_callV (n_broken (wD M (lcR t 6 0 (dTr (mD M)) n, dG (mD M), dSz (mD M), dC (mD M), dSt (mD M), dSh (mD M), dCu (mD M), dLa (mD M), dSw (mD M), dDy (mD M), dDn (mD M), dLt (mD M), dLd (mD M), dSo (mD M))) n ) lk_Mo_92 [0, 1, 2, 3, 4, 5, 6] (gdec_at D_Mo_layCubes 99 rfl) (st := [.int ((dSw (mD M)) (t)), .int (43 + (nI t)), .ref 1]) rfl rfl ⟨rfl, rfl⟩ (Nat.le_of_ble_eq_true rfl) rfl (by decide) rfl (Nat.le_of_ble_eq_true rfl) ⟨Nat.le_of_ble_eq_true rfl, Nat.le_of_ble_eq_true rfl⟩ ⟨Nat.le_of_ble_eq_true rfl, Nat.le_of_ble_eq_true rfl⟩ (gAft_r rfl rfl (h' := cMo (wD M (lcR t 6 0 (dTr (mD M)) n, dG (mD M), dSz (mD M), dC (mD M), dSt (mD M), dSh (mD M), dCu (mD M), dLa (mD M), dSw (mD M), dDy (mD M), dDn (mD M), dLt (mD M), dLd (mD M), dSo (mD M)))) (st' := [.int (brkI ((dSt (mD M)) 5) n), .int ((dSw (mD M)) (t)), .int (43 + (nI t)), .ref 1]) (pc' := 169) (cs' := 0) (ss' := 0) rfl rfl rfl rfl rfl ?_)
  refine gW_b D_Mo_layCubes 100 2 (pc' := 171) (l' := [(0, .ref 0), (1, .int (nI s)), (2, .int (nI t)), (3, .int n), (5, .int (n - (brkI ((dSt (mD M)) 5) n)))]) (st' := []) (h' := [cO 6 [.int (mTh M), .ref 1, .ref 2, .int (nI (mN M)), .ref 3, .ref 4, .int (nI (mTy M)), .ref 5, .int (nI (mSt M)), .ref 6, .int (nI (mPm M)), .int (nI (mSpt M)), .int (mWr M), .long (mHs M)], cI 103 (upd (zD (lcR t 6 0 (dTr (mD M)) n, dG (mD M), dSz (mD M), dC (mD M), dSt (mD M), dSh (mD M), dCu (mD M), dLa (mD M), dSw (mD M), dDy (mD M), dDn (mD M), dLt (mD M), dLd (mD M), dSo (mD M))) ((43 + (nI t)).toNatClampNeg) (((dSw (mD M)) (t)) + (brkI ((dSt (mD M)) 5) n))), cI 618 (svF (mDs M)), cI 103 (zD (mSp M)), cI 60 (mBf M), cI 10 (oF (mOd M)), cI 39 (mPa M)]) (P := vp_in (43 + (nI t)) 103 ∧ True) rfl ⟨(gvin (gadd (gk 43) (rfl : nI t = nI t)) (by omega) (by omega)), trivial⟩ ?_
  rw [show (43 + (nI t)).toNatClampNeg = (43 + t) from gclp (gadd (gk 43) (rfl : nI t = nI t)) (by omega)]
  rw [show upd (zD (lcR t 6 0 (dTr (mD M)) n, dG (mD M), dSz (mD M), dC (mD M), dSt (mD M), dSh (mD M), dCu (mD M), dLa (mD M), dSw (mD M), dDy (mD M), dDn (mD M), dLt (mD M), dLd (mD M), dSo (mD M))) (43 + t) (((dSw (mD M)) (t)) + (brkI ((dSt (mD M)) 5) n)) = zD (lcR t 6 0 (dTr (mD M)) n, dG (mD M), dSz (mD M), dC (mD M), dSt (mD M), dSh (mD M), dCu (mD M), dLa (mD M), upd (dSw (mD M)) t (((dSw (mD M)) (t)) + (brkI ((dSt (mD M)) 5) n)), dDy (mD M), dDn (mD M), dLt (mD M), dLd (mD M), dSo (mD M)) from zu_sw (lcR t 6 0 (dTr (mD M)) n, dG (mD M), dSz (mD M), dC (mD M), dSt (mD M), dSh (mD M), dCu (mD M), dLa (mD M), dSw (mD M), dDy (mD M), dDn (mD M), dLt (mD M), dLd (mD M), dSo (mD M)) t (by omega) (((dSw (mD M)) (t)) + (brkI ((dSt (mD M)) 5) n))]
  refine gW_b D_Mo_layCubes 102 7 (pc' := 181) (l' := [(0, .ref 0), (1, .int (nI s)), (2, .int (nI t)), (3, .int n), (5, .int (n - (brkI ((dSt (mD M)) 5) n)))]) (st' := [.int (zD (lcR t 6 0 (dTr (mD M)) n, dG (mD M), dSz (mD M), dC (mD M), dSt (mD M), dSh (mD M), dCu (mD M), dLa (mD M), upd (dSw (mD M)) t (((dSw (mD M)) (t)) + (brkI ((dSt (mD M)) 5) n)), dDy (mD M), dDn (mD M), dLt (mD M), dLd (mD M), dSo (mD M)) (47 + (nI t)).toNatClampNeg), .int (47 + (nI t)), .ref 1]) (h' := cMo (wD M (lcR t 6 0 (dTr (mD M)) n, dG (mD M), dSz (mD M), dC (mD M), dSt (mD M), dSh (mD M), dCu (mD M), dLa (mD M), upd (dSw (mD M)) t (((dSw (mD M)) (t)) + (brkI ((dSt (mD M)) 5) n)), dDy (mD M), dDn (mD M), dLt (mD M), dLd (mD M), dSo (mD M)))) (P := vp_in (47 + (nI t)) 103 ∧ True) rfl ⟨(gvin (gadd (gk 47) (rfl : nI t = nI t)) (by omega) (by omega)), trivial⟩ ?_
  rw [show (47 + (nI t)).toNatClampNeg = (47 + t) from gclp (gadd (gk 47) (rfl : nI t = nI t)) (by omega)]
  rw [show (zD (lcR t 6 0 (dTr (mD M)) n, dG (mD M), dSz (mD M), dC (mD M), dSt (mD M), dSh (mD M), dCu (mD M), dLa (mD M), upd (dSw (mD M)) t (((dSw (mD M)) (t)) + (brkI ((dSt (mD M)) 5) n)), dDy (mD M), dDn (mD M), dLt (mD M), dLd (mD M), dSo (mD M)) (47 + t) : Int32) = (dLa (mD M)) (t) from zr_la (lcR t 6 0 (dTr (mD M)) n, dG (mD M), dSz (mD M), dC (mD M), dSt (mD M), dSh (mD M), dCu (mD M), dLa (mD M), upd (dSw (mD M)) t (((dSw (mD M)) (t)) + (brkI ((dSt (mD M)) 5) n)), dDy (mD M), dDn (mD M), dLt (mD M), dLd (mD M), dSo (mD M)) t (by omega)]
  refine gW_b D_Mo_layCubes 109 3 (pc' := 185) (l' := [(0, .ref 0), (1, .int (nI s)), (2, .int (nI t)), (3, .int n), (5, .int (n - (brkI ((dSt (mD M)) 5) n)))]) (st' := []) (h' := [cO 6 [.int (mTh M), .ref 1, .ref 2, .int (nI (mN M)), .ref 3, .ref 4, .int (nI (mTy M)), .ref 5, .int (nI (mSt M)), .ref 6, .int (nI (mPm M)), .int (nI (mSpt M)), .int (mWr M), .long (mHs M)], cI 103 (upd (zD (lcR t 6 0 (dTr (mD M)) n, dG (mD M), dSz (mD M), dC (mD M), dSt (mD M), dSh (mD M), dCu (mD M), dLa (mD M), upd (dSw (mD M)) t (((dSw (mD M)) (t)) + (brkI ((dSt (mD M)) 5) n)), dDy (mD M), dDn (mD M), dLt (mD M), dLd (mD M), dSo (mD M))) ((47 + (nI t)).toNatClampNeg) (((dLa (mD M)) (t)) + (n - (brkI ((dSt (mD M)) 5) n)))), cI 618 (svF (mDs M)), cI 103 (zD (mSp M)), cI 60 (mBf M), cI 10 (oF (mOd M)), cI 39 (mPa M)]) (P := vp_in (47 + (nI t)) 103 ∧ True) rfl ⟨(gvin (gadd (gk 47) (rfl : nI t = nI t)) (by omega) (by omega)), trivial⟩ ?_
  rw [show (47 + (nI t)).toNatClampNeg = (47 + t) from gclp (gadd (gk 47) (rfl : nI t = nI t)) (by omega)]
  rw [show upd (zD (lcR t 6 0 (dTr (mD M)) n, dG (mD M), dSz (mD M), dC (mD M), dSt (mD M), dSh (mD M), dCu (mD M), dLa (mD M), upd (dSw (mD M)) t (((dSw (mD M)) (t)) + (brkI ((dSt (mD M)) 5) n)), dDy (mD M), dDn (mD M), dLt (mD M), dLd (mD M), dSo (mD M))) (47 + t) (((dLa (mD M)) (t)) + (n - (brkI ((dSt (mD M)) 5) n))) = zD (lcR t 6 0 (dTr (mD M)) n, dG (mD M), dSz (mD M), dC (mD M), dSt (mD M), dSh (mD M), dCu (mD M), upd (dLa (mD M)) t (((dLa (mD M)) (t)) + (n - (brkI ((dSt (mD M)) 5) n))), upd (dSw (mD M)) t (((dSw (mD M)) (t)) + (brkI ((dSt (mD M)) 5) n)), dDy (mD M), dDn (mD M), dLt (mD M), dLd (mD M), dSo (mD M)) from zu_la (lcR t 6 0 (dTr (mD M)) n, dG (mD M), dSz (mD M), dC (mD M), dSt (mD M), dSh (mD M), dCu (mD M), dLa (mD M), upd (dSw (mD M)) t (((dSw (mD M)) (t)) + (brkI ((dSt (mD M)) 5) n)), dDy (mD M), dDn (mD M), dLt (mD M), dLd (mD M), dSo (mD M)) t (by omega) (((dLa (mD M)) (t)) + (n - (brkI ((dSt (mD M)) 5) n)))]
  refine gW_b D_Mo_layCubes 112 6 (pc' := 191) (l' := [(0, .ref 0), (1, .int (nI s)), (2, .int (nI t)), (3, .int n), (5, .int (n - (brkI ((dSt (mD M)) 5) n)))]) (st' := [.int 4, .int (nI s), .ref 0, .int 4, .int (nI s), .ref 0]) (h' := cMo (wD M (lcR t 6 0 (dTr (mD M)) n, dG (mD M), dSz (mD M), dC (mD M), dSt (mD M), dSh (mD M), dCu (mD M), upd (dLa (mD M)) t (((dLa (mD M)) (t)) + (n - (brkI ((dSt (mD M)) 5) n))), upd (dSw (mD M)) t (((dSw (mD M)) (t)) + (brkI ((dSt (mD M)) 5) n)), dDy (mD M), dDn (mD M), dLt (mD M), dLd (mD M), dSo (mD M)))) (P := True) rfl trivial ?_
  refine gW_callV (n_its (wD M (lcR t 6 0 (dTr (mD M)) n, dG (mD M), dSz (mD M), dC (mD M), dSt (mD M), dSh (mD M), dCu (mD M), upd (dLa (mD M)) t (((dLa (mD M)) (t)) + (n - (brkI ((dSt (mD M)) 5) n))), upd (dSw (mD M)) t (((dSw (mD M)) (t)) + (brkI ((dSt (mD M)) 5) n)), dDy (mD M), dDn (mD M), dLt (mD M), dLd (mD M), dSo (mD M))) s 4 (by omega) (by omega)) lk_Mo_75 [0, 1, 2, 3, 4, 5, 6] (gdec_at D_Mo_layCubes 118 rfl) (st := [.int 4, .int (nI s), .ref 0]) rfl rfl ⟨rfl, rfl⟩ (Nat.le_of_ble_eq_true rfl) rfl (by decide) rfl (Nat.le_of_ble_eq_true rfl) ⟨Nat.le_of_ble_eq_true rfl, Nat.le_of_ble_eq_true rfl⟩ ⟨Nat.le_of_ble_eq_true rfl, Nat.le_of_ble_eq_true rfl⟩ (gAft_r rfl rfl (h' := cMo (wD M (lcR t 6 0 (dTr (mD M)) n, dG (mD M), dSz (mD M), dC (mD M), dSt (mD M), dSh (mD M), dCu (mD M), upd (dLa (mD M)) t (((dLa (mD M)) (t)) + (n - (brkI ((dSt (mD M)) 5) n))), upd (dSw (mD M)) t (((dSw (mD M)) (t)) + (brkI ((dSt (mD M)) 5) n)), dDy (mD M), dDn (mD M), dLt (mD M), dLd (mD M), dSo (mD M)))) (st' := [.int ((dG (mD M)) (s * 5 + 4)), .int 4, .int (nI s), .ref 0]) (pc' := 194) (cs' := 0) (ss' := 0) rfl rfl rfl rfl rfl ?_)
  refine gW_b D_Mo_layCubes 119 2 (pc' := 197) (l' := [(0, .ref 0), (1, .int (nI s)), (2, .int (nI t)), (3, .int n), (5, .int (n - (brkI ((dSt (mD M)) 5) n)))]) (st' := [.int (((dG (mD M)) (s * 5 + 4)) + (n - (brkI ((dSt (mD M)) 5) n))), .int 4, .int (nI s), .ref 0]) (h' := cMo (wD M (lcR t 6 0 (dTr (mD M)) n, dG (mD M), dSz (mD M), dC (mD M), dSt (mD M), dSh (mD M), dCu (mD M), upd (dLa (mD M)) t (((dLa (mD M)) (t)) + (n - (brkI ((dSt (mD M)) 5) n))), upd (dSw (mD M)) t (((dSw (mD M)) (t)) + (brkI ((dSt (mD M)) 5) n)), dDy (mD M), dDn (mD M), dLt (mD M), dLd (mD M), dSo (mD M)))) (P := True) rfl trivial ?_
  refine gW_callV (n_lay (wD M (lcR t 6 0 (dTr (mD M)) n, dG (mD M), dSz (mD M), dC (mD M), dSt (mD M), dSh (mD M), dCu (mD M), upd (dLa (mD M)) t (((dLa (mD M)) (t)) + (n - (brkI ((dSt (mD M)) 5) n))), upd (dSw (mD M)) t (((dSw (mD M)) (t)) + (brkI ((dSt (mD M)) 5) n)), dDy (mD M), dDn (mD M), dLt (mD M), dLd (mD M), dSo (mD M))) s 4 (((dG (mD M)) (s * 5 + 4)) + (n - (brkI ((dSt (mD M)) 5) n))) (by omega) (by omega)) lk_Mo_68 [0, 1, 2, 3, 4, 5, 6] (gdec_at D_Mo_layCubes 121 rfl) (st := []) rfl rfl ⟨rfl, rfl⟩ (Nat.le_of_ble_eq_true rfl) rfl (by decide) rfl (Nat.le_of_ble_eq_true rfl) ⟨Nat.le_of_ble_eq_true rfl, Nat.le_of_ble_eq_true rfl⟩ ⟨Nat.le_of_ble_eq_true rfl, Nat.le_of_ble_eq_true rfl⟩ (gAft_r rfl rfl (h' := cMo (wD M (lcR t 6 0 (dTr (mD M)) n, upd (dG (mD M)) (s * 5 + 4) (((dG (mD M)) (s * 5 + 4)) + (n - (brkI ((dSt (mD M)) 5) n))), dSz (mD M), dC (mD M), dSt (mD M), dSh (mD M), dCu (mD M), upd (dLa (mD M)) t (((dLa (mD M)) (t)) + (n - (brkI ((dSt (mD M)) 5) n))), upd (dSw (mD M)) t (((dSw (mD M)) (t)) + (brkI ((dSt (mD M)) 5) n)), dDy (mD M), dDn (mD M), dLt (mD M), dLd (mD M), dSo (mD M)))) (st' := []) (pc' := 200) (cs' := 0) (ss' := 0) rfl rfl rfl rfl rfl ?_)
  refine gW_b D_Mo_layCubes 122 6 (pc' := 206) (l' := [(0, .ref 0), (1, .int (nI s)), (2, .int (nI t)), (3, .int n), (5, .int (n - (brkI ((dSt (mD M)) 5) n)))]) (st' := [.int 2, .int (nI s), .ref 0, .int 2, .int (nI s), .ref 0]) (h' := cMo (wD M (lcR t 6 0 (dTr (mD M)) n, upd (dG (mD M)) (s * 5 + 4) (((dG (mD M)) (s * 5 + 4)) + (n - (brkI ((dSt (mD M)) 5) n))), dSz (mD M), dC (mD M), dSt (mD M), dSh (mD M), dCu (mD M), upd (dLa (mD M)) t (((dLa (mD M)) (t)) + (n - (brkI ((dSt (mD M)) 5) n))), upd (dSw (mD M)) t (((dSw (mD M)) (t)) + (brkI ((dSt (mD M)) 5) n)), dDy (mD M), dDn (mD M), dLt (mD M), dLd (mD M), dSo (mD M)))) (P := True) rfl trivial ?_
  refine gW_callV (n_its (wD M (lcR t 6 0 (dTr (mD M)) n, upd (dG (mD M)) (s * 5 + 4) (((dG (mD M)) (s * 5 + 4)) + (n - (brkI ((dSt (mD M)) 5) n))), dSz (mD M), dC (mD M), dSt (mD M), dSh (mD M), dCu (mD M), upd (dLa (mD M)) t (((dLa (mD M)) (t)) + (n - (brkI ((dSt (mD M)) 5) n))), upd (dSw (mD M)) t (((dSw (mD M)) (t)) + (brkI ((dSt (mD M)) 5) n)), dDy (mD M), dDn (mD M), dLt (mD M), dLd (mD M), dSo (mD M))) s 2 (by omega) (by omega)) lk_Mo_75 [0, 1, 2, 3, 4, 5, 6] (gdec_at D_Mo_layCubes 128 rfl) (st := [.int 2, .int (nI s), .ref 0]) rfl rfl ⟨rfl, rfl⟩ (Nat.le_of_ble_eq_true rfl) rfl (by decide) rfl (Nat.le_of_ble_eq_true rfl) ⟨Nat.le_of_ble_eq_true rfl, Nat.le_of_ble_eq_true rfl⟩ ⟨Nat.le_of_ble_eq_true rfl, Nat.le_of_ble_eq_true rfl⟩ (gAft_r rfl rfl (h' := cMo (wD M (lcR t 6 0 (dTr (mD M)) n, upd (dG (mD M)) (s * 5 + 4) (((dG (mD M)) (s * 5 + 4)) + (n - (brkI ((dSt (mD M)) 5) n))), dSz (mD M), dC (mD M), dSt (mD M), dSh (mD M), dCu (mD M), upd (dLa (mD M)) t (((dLa (mD M)) (t)) + (n - (brkI ((dSt (mD M)) 5) n))), upd (dSw (mD M)) t (((dSw (mD M)) (t)) + (brkI ((dSt (mD M)) 5) n)), dDy (mD M), dDn (mD M), dLt (mD M), dLd (mD M), dSo (mD M)))) (st' := [.int ((upd (dG (mD M)) (s * 5 + 4) (((dG (mD M)) (s * 5 + 4)) + (n - (brkI ((dSt (mD M)) 5) n)))) (s * 5 + 2)), .int 2, .int (nI s), .ref 0]) (pc' := 209) (cs' := 0) (ss' := 0) rfl rfl rfl rfl rfl ?_)
  refine gW_b D_Mo_layCubes 129 2 (pc' := 212) (l' := [(0, .ref 0), (1, .int (nI s)), (2, .int (nI t)), (3, .int n), (5, .int (n - (brkI ((dSt (mD M)) 5) n)))]) (st' := [.int (((upd (dG (mD M)) (s * 5 + 4) (((dG (mD M)) (s * 5 + 4)) + (n - (brkI ((dSt (mD M)) 5) n)))) (s * 5 + 2)) - (n - (brkI ((dSt (mD M)) 5) n))), .int 2, .int (nI s), .ref 0]) (h' := cMo (wD M (lcR t 6 0 (dTr (mD M)) n, upd (dG (mD M)) (s * 5 + 4) (((dG (mD M)) (s * 5 + 4)) + (n - (brkI ((dSt (mD M)) 5) n))), dSz (mD M), dC (mD M), dSt (mD M), dSh (mD M), dCu (mD M), upd (dLa (mD M)) t (((dLa (mD M)) (t)) + (n - (brkI ((dSt (mD M)) 5) n))), upd (dSw (mD M)) t (((dSw (mD M)) (t)) + (brkI ((dSt (mD M)) 5) n)), dDy (mD M), dDn (mD M), dLt (mD M), dLd (mD M), dSo (mD M)))) (P := True) rfl trivial ?_
  refine gW_callV (n_lay (wD M (lcR t 6 0 (dTr (mD M)) n, upd (dG (mD M)) (s * 5 + 4) (((dG (mD M)) (s * 5 + 4)) + (n - (brkI ((dSt (mD M)) 5) n))), dSz (mD M), dC (mD M), dSt (mD M), dSh (mD M), dCu (mD M), upd (dLa (mD M)) t (((dLa (mD M)) (t)) + (n - (brkI ((dSt (mD M)) 5) n))), upd (dSw (mD M)) t (((dSw (mD M)) (t)) + (brkI ((dSt (mD M)) 5) n)), dDy (mD M), dDn (mD M), dLt (mD M), dLd (mD M), dSo (mD M))) s 2 (((upd (dG (mD M)) (s * 5 + 4) (((dG (mD M)) (s * 5 + 4)) + (n - (brkI ((dSt (mD M)) 5) n)))) (s * 5 + 2)) - (n - (brkI ((dSt (mD M)) 5) n))) (by omega) (by omega)) lk_Mo_68 [0, 1, 2, 3, 4, 5, 6] (gdec_at D_Mo_layCubes 131 rfl) (st := []) rfl rfl ⟨rfl, rfl⟩ (Nat.le_of_ble_eq_true rfl) rfl (by decide) rfl (Nat.le_of_ble_eq_true rfl) ⟨Nat.le_of_ble_eq_true rfl, Nat.le_of_ble_eq_true rfl⟩ ⟨Nat.le_of_ble_eq_true rfl, Nat.le_of_ble_eq_true rfl⟩ (gAft_r rfl rfl (h' := cMo (wD M (lcR t 6 0 (dTr (mD M)) n, upd (upd (dG (mD M)) (s * 5 + 4) (((dG (mD M)) (s * 5 + 4)) + (n - (brkI ((dSt (mD M)) 5) n)))) (s * 5 + 2) (((upd (dG (mD M)) (s * 5 + 4) (((dG (mD M)) (s * 5 + 4)) + (n - (brkI ((dSt (mD M)) 5) n)))) (s * 5 + 2)) - (n - (brkI ((dSt (mD M)) 5) n))), dSz (mD M), dC (mD M), dSt (mD M), dSh (mD M), dCu (mD M), upd (dLa (mD M)) t (((dLa (mD M)) (t)) + (n - (brkI ((dSt (mD M)) 5) n))), upd (dSw (mD M)) t (((dSw (mD M)) (t)) + (brkI ((dSt (mD M)) 5) n)), dDy (mD M), dDn (mD M), dLt (mD M), dLd (mD M), dSo (mD M)))) (st' := []) (pc' := 215) (cs' := 0) (ss' := 0) rfl rfl rfl rfl rfl ?_)
  refine gW_b D_Mo_layCubes 132 1 (pc' := 217) (l' := [(0, .ref 0), (1, .int (nI s)), (2, .int (nI t)), (3, .int n), (5, .int (n - (brkI ((dSt (mD M)) 5) n)))]) (st' := [.int (n - (brkI ((dSt (mD M)) 5) n))]) (h' := cMo (wD M (lcR t 6 0 (dTr (mD M)) n, upd (upd (dG (mD M)) (s * 5 + 4) (((dG (mD M)) (s * 5 + 4)) + (n - (brkI ((dSt (mD M)) 5) n)))) (s * 5 + 2) (((upd (dG (mD M)) (s * 5 + 4) (((dG (mD M)) (s * 5 + 4)) + (n - (brkI ((dSt (mD M)) 5) n)))) (s * 5 + 2)) - (n - (brkI ((dSt (mD M)) 5) n))), dSz (mD M), dC (mD M), dSt (mD M), dSh (mD M), dCu (mD M), upd (dLa (mD M)) t (((dLa (mD M)) (t)) + (n - (brkI ((dSt (mD M)) 5) n))), upd (dSw (mD M)) t (((dSw (mD M)) (t)) + (brkI ((dSt (mD M)) 5) n)), dDy (mD M), dDn (mD M), dLt (mD M), dLd (mD M), dSo (mD M)))) (P := True) rfl trivial ?_
  exact gW_iret (gdec_at D_Mo_layCubes 133 rfl) rfl rfl hn0 ⟨rfl, rfl⟩ (Nat.le_of_ble_eq_true rfl) (Nat.le_of_ble_eq_true rfl)
theorem n_layCubes1 (M : gMo) (s t c q : Nat) (hs : s < 10) (hT : dG (mD M) (s * 5 + 1) = nI t) (ht : t < 4) (hC : dG (mD M) (s * 5 + 2) = nI c) (hc1 : 1 ≤ c) (hc2 : c ≤ 500) (hq : dSt (mD M) 5 = nI q) (hq1 : q = 0 ∨ 2 ≤ q) (hq2 : q ≤ 99) : gM K_Mo_layCubes { frames := 3, locals := 69, cells := 0, slots := 0 } [.ref 0, .int (nI s)] (cMo M) (gD (.inl (some (.int (lyK (mD M) t (nI (tkN q c)) - brkI (dSt (mD M) 5) (lyK (mD M) t (nI (tkN q c))))))) (cMo (wD M (lyE (mD M) s t (lyK (mD M) t (nI (tkN q c))) (brkI (dSt (mD M) 5) (lyK (mD M) t (nI (tkN q c)))))))) := by
  refine gM_of rfl rfl (Nat.le_of_ble_eq_true rfl) (fun sc => ?_)
  have hb := tkN_le (q := q) hc1
  refine gW_b D_Mo_layCubes 0 3 (pc' := 3) (l' := [(0, .ref 0), (1, .int (nI s))]) (st' := [.int 1, .int (nI s), .ref 0]) (h' := cMo M) (P := True) rfl trivial ?_
  refine gW_callV (n_its M s 1 (by omega) (by omega)) lk_Mo_75 [0, 1, 2, 3, 4, 5, 6] (gdec_at D_Mo_layCubes 3 rfl) (st := []) rfl rfl ⟨rfl, rfl⟩ (Nat.le_of_ble_eq_true rfl) rfl (by decide) rfl (Nat.le_of_ble_eq_true rfl) ⟨Nat.le_of_ble_eq_true rfl, Nat.le_of_ble_eq_true rfl⟩ ⟨Nat.le_of_ble_eq_true rfl, Nat.le_of_ble_eq_true rfl⟩ (gAft_r rfl rfl (h' := cMo M) (st' := [.int ((dG (mD M)) (s * 5 + 1))]) (pc' := 6) (cs' := 0) (ss' := 0) rfl rfl rfl rfl rfl ?_)
  rw [show ((dG (mD M)) (s * 5 + 1) : Int32) = nI t from hT]
  refine gW_b D_Mo_layCubes 4 5 (pc' := 11) (l' := [(0, .ref 0), (1, .int (nI s)), (2, .int (nI t))]) (st' := [.int 2, .int (nI s), .ref 0, .ref 0]) (h' := cMo M) (P := True) rfl trivial ?_
  refine gW_callV (n_its M s 2 (by omega) (by omega)) lk_Mo_75 [0, 1, 2, 3, 4, 5, 6] (gdec_at D_Mo_layCubes 9 rfl) (st := [.ref 0]) rfl rfl ⟨rfl, rfl⟩ (Nat.le_of_ble_eq_true rfl) rfl (by decide) rfl (Nat.le_of_ble_eq_true rfl) ⟨Nat.le_of_ble_eq_true rfl, Nat.le_of_ble_eq_true rfl⟩ ⟨Nat.le_of_ble_eq_true rfl, Nat.le_of_ble_eq_true rfl⟩ (gAft_r rfl rfl (h' := cMo M) (st' := [.int ((dG (mD M)) (s * 5 + 2)), .ref 0]) (pc' := 14) (cs' := 0) (ss' := 0) rfl rfl rfl rfl rfl ?_)
  rw [show ((dG (mD M)) (s * 5 + 2) : Int32) = nI c from hC]
  refine gW_callV (n_takenFor M q c hq hq1 hq2 hc1 hc2) lk_Mo_98 [0, 1, 2, 3, 4, 5, 6] (gdec_at D_Mo_layCubes 10 rfl) (st := []) rfl rfl ⟨rfl, rfl⟩ (Nat.le_of_ble_eq_true rfl) rfl (by decide) rfl (Nat.le_of_ble_eq_true rfl) ⟨Nat.le_of_ble_eq_true rfl, Nat.le_of_ble_eq_true rfl⟩ ⟨Nat.le_of_ble_eq_true rfl, Nat.le_of_ble_eq_true rfl⟩ (gAft_r rfl rfl (h' := cMo M) (st' := [.int (nI (tkN q c))]) (pc' := 17) (cs' := 0) (ss' := 0) rfl rfl rfl rfl rfl ?_)
  refine gW_b D_Mo_layCubes 11 6 (pc' := 26) (l' := [(0, .ref 0), (1, .int (nI s)), (2, .int (nI t)), (3, .int (nI (tkN q c)))]) (st' := [.int ((dSt (mD M)) 4), .int (nI (tkN q c))]) (h' := cMo M) (P := vp_in 32 103 ∧ True) rfl ⟨(gvl 32 103 (by omega) (by omega)), trivial⟩ ?_
  refine gW_ic_ge (gdec_at D_Mo_layCubes 17 rfl) (tgt := 33) rfl (fun d => ?_) (fun d => ?_)
  · skip
    refine gW_b D_Mo_layCubes 20 4 (pc' := 40) (l' := [(0, .ref 0), (1, .int (nI s)), (2, .int (nI t)), (3, .int (nI (tkN q c)))]) (st' := [.int ((dSt (mD M)) 4)]) (h' := cMo M) (P := vp_in 32 103 ∧ True) rfl ⟨(gvl 32 103 (by omega) (by omega)), trivial⟩ ?_
    refine gW_b D_Mo_layCubes 24 5 (pc' := 45) (l' := [(0, .ref 0), (1, .int (nI s)), (2, .int (nI t)), (3, .int ((dSt (mD M)) 4))]) (st' := [.int 1, .int (nI t), .ref 0, .int ((dSt (mD M)) 4)]) (h' := cMo M) (P := True) rfl trivial ?_
    refine gW_callV (n_inTrays_p M t (by omega)) lk_Mo_101 [0, 1, 2, 3, 4, 5, 6] (gdec_at D_Mo_layCubes 29 rfl) (st := [.int ((dSt (mD M)) 4)]) rfl rfl ⟨rfl, rfl⟩ (Nat.le_of_ble_eq_true rfl) rfl (by decide) rfl (Nat.le_of_ble_eq_true rfl) ⟨Nat.le_of_ble_eq_true rfl, Nat.le_of_ble_eq_true rfl⟩ ⟨Nat.le_of_ble_eq_true rfl, Nat.le_of_ble_eq_true rfl⟩ (gAft_r rfl rfl (h' := cMo M) (st' := [.int (rpI (dTr (mD M)) t 6), .int ((dSt (mD M)) 4)]) (pc' := 48) (cs' := 0) (ss' := 0) rfl rfl rfl rfl rfl ?_)
    refine gW_ic_ge (gdec_at D_Mo_layCubes 30 rfl) (tgt := 55) rfl (fun e => ?_) (fun e => ?_)
    · skip
      refine gW_b D_Mo_layCubes 33 3 (pc' := 58) (l' := [(0, .ref 0), (1, .int (nI s)), (2, .int (nI t)), (3, .int ((dSt (mD M)) 4))]) (st' := [.int 1, .int (nI t), .ref 0]) (h' := cMo M) (P := True) rfl trivial ?_
      refine gW_callV (n_inTrays_p M t (by omega)) lk_Mo_101 [0, 1, 2, 3, 4, 5, 6] (gdec_at D_Mo_layCubes 36 rfl) (st := []) rfl rfl ⟨rfl, rfl⟩ (Nat.le_of_ble_eq_true rfl) rfl (by decide) rfl (Nat.le_of_ble_eq_true rfl) ⟨Nat.le_of_ble_eq_true rfl, Nat.le_of_ble_eq_true rfl⟩ ⟨Nat.le_of_ble_eq_true rfl, Nat.le_of_ble_eq_true rfl⟩ (gAft_r rfl rfl (h' := cMo M) (st' := [.int (rpI (dTr (mD M)) t 6)]) (pc' := 61) (cs' := 0) (ss' := 0) rfl rfl rfl rfl rfl ?_)
      refine gW_b D_Mo_layCubes 37 1 (pc' := 62) (l' := [(0, .ref 0), (1, .int (nI s)), (2, .int (nI t)), (3, .int (rpI (dTr (mD M)) t 6))]) (st' := []) (h' := cMo M) (P := True) rfl trivial ?_
      have hh : lyK (mD M) t (nI (tkN q c)) = rpI (dTr (mD M)) t 6 := by unfold lyK; rw [show lyA (nI (tkN q c)) (dSt (mD M) 4) = dSt (mD M) 4 from if_pos d]; exact if_pos e
      rw [hh]
      exact k_layCubes3 M s t _ hs ht (Nat.le_of_ble_eq_true rfl)
    · skip
      refine gW_b D_Mo_layCubes 31 2 (pc' := 61) (l' := [(0, .ref 0), (1, .int (nI s)), (2, .int (nI t)), (3, .int ((dSt (mD M)) 4))]) (st' := [.int ((dSt (mD M)) 4)]) (h' := cMo M) (P := True) rfl trivial ?_
      refine gW_b D_Mo_layCubes 37 1 (pc' := 62) (l' := [(0, .ref 0), (1, .int (nI s)), (2, .int (nI t)), (3, .int ((dSt (mD M)) 4))]) (st' := []) (h' := cMo M) (P := True) rfl trivial ?_
      have hh : lyK (mD M) t (nI (tkN q c)) = dSt (mD M) 4 := by unfold lyK; rw [show lyA (nI (tkN q c)) (dSt (mD M) 4) = dSt (mD M) 4 from if_pos d]; exact if_neg e
      rw [hh]
      exact k_layCubes3 M s t _ hs ht (Nat.le_of_ble_eq_true rfl)
  · skip
    refine gW_b D_Mo_layCubes 18 2 (pc' := 40) (l' := [(0, .ref 0), (1, .int (nI s)), (2, .int (nI t)), (3, .int (nI (tkN q c)))]) (st' := [.int (nI (tkN q c))]) (h' := cMo M) (P := True) rfl trivial ?_
    refine gW_b D_Mo_layCubes 24 5 (pc' := 45) (l' := [(0, .ref 0), (1, .int (nI s)), (2, .int (nI t)), (3, .int (nI (tkN q c)))]) (st' := [.int 1, .int (nI t), .ref 0, .int (nI (tkN q c))]) (h' := cMo M) (P := True) rfl trivial ?_
    refine gW_callV (n_inTrays_p M t (by omega)) lk_Mo_101 [0, 1, 2, 3, 4, 5, 6] (gdec_at D_Mo_layCubes 29 rfl) (st := [.int (nI (tkN q c))]) rfl rfl ⟨rfl, rfl⟩ (Nat.le_of_ble_eq_true rfl) rfl (by decide) rfl (Nat.le_of_ble_eq_true rfl) ⟨Nat.le_of_ble_eq_true rfl, Nat.le_of_ble_eq_true rfl⟩ ⟨Nat.le_of_ble_eq_true rfl, Nat.le_of_ble_eq_true rfl⟩ (gAft_r rfl rfl (h' := cMo M) (st' := [.int (rpI (dTr (mD M)) t 6), .int (nI (tkN q c))]) (pc' := 48) (cs' := 0) (ss' := 0) rfl rfl rfl rfl rfl ?_)
    refine gW_ic_ge (gdec_at D_Mo_layCubes 30 rfl) (tgt := 55) rfl (fun e => ?_) (fun e => ?_)
    · skip
      refine gW_b D_Mo_layCubes 33 3 (pc' := 58) (l' := [(0, .ref 0), (1, .int (nI s)), (2, .int (nI t)), (3, .int (nI (tkN q c)))]) (st' := [.int 1, .int (nI t), .ref 0]) (h' := cMo M) (P := True) rfl trivial ?_
      refine gW_callV (n_inTrays_p M t (by omega)) lk_Mo_101 [0, 1, 2, 3, 4, 5, 6] (gdec_at D_Mo_layCubes 36 rfl) (st := []) rfl rfl ⟨rfl, rfl⟩ (Nat.le_of_ble_eq_true rfl) rfl (by decide) rfl (Nat.le_of_ble_eq_true rfl) ⟨Nat.le_of_ble_eq_true rfl, Nat.le_of_ble_eq_true rfl⟩ ⟨Nat.le_of_ble_eq_true rfl, Nat.le_of_ble_eq_true rfl⟩ (gAft_r rfl rfl (h' := cMo M) (st' := [.int (rpI (dTr (mD M)) t 6)]) (pc' := 61) (cs' := 0) (ss' := 0) rfl rfl rfl rfl rfl ?_)
      refine gW_b D_Mo_layCubes 37 1 (pc' := 62) (l' := [(0, .ref 0), (1, .int (nI s)), (2, .int (nI t)), (3, .int (rpI (dTr (mD M)) t 6))]) (st' := []) (h' := cMo M) (P := True) rfl trivial ?_
      have hh : lyK (mD M) t (nI (tkN q c)) = rpI (dTr (mD M)) t 6 := by unfold lyK; rw [show lyA (nI (tkN q c)) (dSt (mD M) 4) = nI (tkN q c) from if_neg d]; exact if_pos e
      rw [hh]
      exact k_layCubes3 M s t _ hs ht (Nat.le_of_ble_eq_true rfl)
    · skip
      refine gW_b D_Mo_layCubes 31 2 (pc' := 61) (l' := [(0, .ref 0), (1, .int (nI s)), (2, .int (nI t)), (3, .int (nI (tkN q c)))]) (st' := [.int (nI (tkN q c))]) (h' := cMo M) (P := True) rfl trivial ?_
      refine gW_b D_Mo_layCubes 37 1 (pc' := 62) (l' := [(0, .ref 0), (1, .int (nI s)), (2, .int (nI t)), (3, .int (nI (tkN q c)))]) (st' := []) (h' := cMo M) (P := True) rfl trivial ?_
      have hh : lyK (mD M) t (nI (tkN q c)) = nI (tkN q c) := by unfold lyK; rw [show lyA (nI (tkN q c)) (dSt (mD M) 4) = nI (tkN q c) from if_neg d]; exact if_neg e
      rw [hh]
      exact k_layCubes3 M s t _ hs ht (Nat.le_of_ble_eq_true rfl)
theorem n_layCubes (M : gMo) (s : Nat) (hok : rOK (mD M)) (hs : s < dSz (mD M)) (hw : ¬ dG (mD M) (s * 5 + 2) ≤ 0) : gM K_Mo_layCubes { frames := 3, locals := 69, cells := 0, slots := 0 } [.ref 0, .int (nI s)] (cMo M) (gD (.inl (some (.int (lyV (mD M) s)))) (cMo (wD M (lyD (mD M) s)))) := by
  obtain ⟨h10, hr, h5, h51, h52, -⟩ := hok
  obtain ⟨⟨hT, ht⟩, hC, hc⟩ := hr s hs
  exact n_layCubes1 M s _ _ _ (by omega) hT ht hC (nI_pos1 (hC ▸ hw)) hc h5 h51 h52
theorem tkN_top {q c n : Nat} (hq : q = 0 ∨ 2 ≤ q) (hc : 1 ≤ c) (hn : n ≤ tkN q c) : n - n / q ≤ c := by
  have hd : n / q ≤ n := Nat.div_le_self _ _
  by_cases h : n ≤ c
  · exact Nat.le_trans (Nat.sub_le _ _) h
  · obtain ⟨j, rfl⟩ : ∃ j, n = c + (j + 1) := ⟨n - c - 1, by omega⟩
    have h1 := (tkN_iff (q := q) (c := c) (j := j) hq hc).mpr (by omega)
    have h2 : (c + j) / q ≤ (c + (j + 1)) / q := Nat.div_le_div_right (by omega)
    have h3 : (c + j) / q ≤ c + j := Nat.div_le_self _ _
    omega
/-- what a setter takes and lays, as numbers -/
theorem lyN_n {D : gDom} {s : Nat} (hok : rOK D) (hs : s < dSz D) (hw : ¬ dG D (s * 5 + 2) ≤ 0) (hR : ¬ rpI (dTr D) (tnx (dG D (s * 5 + 1))) 6 ≤ 0) : ∃ n, 1 ≤ n ∧ n ≤ 99 ∧ n ≤ tkN (tnx (dSt D 5)) (tnx (dG D (s * 5 + 2))) ∧ nI n ≤ rpI (dTr D) (tnx (dG D (s * 5 + 1))) 6 ∧ lyN D s = nI n ∧ lyB D s = nI (n / tnx (dSt D 5)) ∧ lyV D s = nI (n - n / tnx (dSt D 5)) := by
  obtain ⟨h10, hr, h5, h51, h52, h4, h41, h42, h3, h31⟩ := hok
  obtain ⟨⟨hT, ht⟩, hC, hc⟩ := hr s hs
  have hc1 : 1 ≤ tnx (dG D (s * 5 + 2)) := nI_pos1 (hC ▸ hw)
  have hk := tkN_le (q := tnx (dSt D 5)) hc1
  have key : ∃ n, 1 ≤ n ∧ n ≤ 99 ∧ n ≤ tkN (tnx (dSt D 5)) (tnx (dG D (s * 5 + 2))) ∧ nI n ≤ rpI (dTr D) (tnx (dG D (s * 5 + 1))) 6 ∧ lyN D s = nI n := by
    have hA : ∃ a, 1 ≤ a ∧ a ≤ 99 ∧ a ≤ tkN (tnx (dSt D 5)) (tnx (dG D (s * 5 + 2))) ∧ lyA (nI (tkN (tnx (dSt D 5)) (tnx (dG D (s * 5 + 2))))) (dSt D 4) = nI a := by
      unfold lyA
      rw [h4]
      by_cases h : nI (tnx (dSt D 4)) ≤ nI (tkN (tnx (dSt D 5)) (tnx (dG D (s * 5 + 2))))
      · have h' := (nI_leI (by omega) (by omega)).mp h
        exact ⟨_, h41, h42, h', if_pos h⟩
      · have h' := mt (nI_leI (by omega) (by omega)).mpr h
        exact ⟨_, by omega, by omega, Nat.le_refl _, if_neg h⟩
    obtain ⟨a, a1, a2, a3, ha⟩ := hA
    unfold lyN lyK
    rw [ha]
    unfold lyA
    by_cases h : rpI (dTr D) (tnx (dG D (s * 5 + 1))) 6 ≤ nI a
    · obtain ⟨r, hr1, hr2⟩ := nI_of2 (x := rpI (dTr D) (tnx (dG D (s * 5 + 1))) 6) (M := nI a) (n := a) (nI_toInt (by omega)) (fun q => hR (Int32.le_of_lt q)) h
      refine ⟨r, nI_pos1 (hr2 ▸ hR), by omega, by omega, ?_, ?_⟩
      · rw [hr2]
        exact Int32.le_refl _
      · rw [if_pos h, hr2]
    · refine ⟨a, a1, a2, a3, Int32.le_of_lt (Int32.not_le.mp h), if_neg h⟩
  obtain ⟨n, n1, n2, n3, n4, n5⟩ := key
  have hB : lyB D s = nI (n / tnx (dSt D 5)) := by
    unfold lyB
    rw [n5]
    exact brkI_n h5 h52 (by omega)
  refine ⟨n, n1, n2, n3, n4, n5, hB, ?_⟩
  unfold lyV
  rw [hB, n5]
  exact pk_sub (Nat.div_le_self _ _)
theorem layG_at (g : Nat → Int32) (s : Nat) (v : Int32) (q k : Nat) (hk : k < 5) : layG g s v (q * 5 + k) = if q = s ∧ k = 4 then g (q * 5 + k) + v else if q = s ∧ k = 2 then g (q * 5 + k) - v else g (q * 5 + k) := by
  unfold layG upd
  by_cases h : q = s
  · subst h
    by_cases h4 : k = 4
    · subst h4
      simp
    · by_cases h2 : k = 2
      · subst h2
        simp
      · rw [if_neg (by omega), if_neg (by omega), if_neg (by omega), if_neg (by omega)]
  · rw [if_neg (by omega), if_neg (by omega), if_neg (by omega), if_neg (by omega)]
theorem rOK_ly {D : gDom} {s : Nat} (hok : rOK D) (hs : s < dSz D) (hw : ¬ dG D (s * 5 + 2) ≤ 0) (hR : ¬ rpI (dTr D) (tnx (dG D (s * 5 + 1))) 6 ≤ 0) : rOK (lyD D s) := by
  obtain ⟨n, n1, n2, n3, -, n5, n6, n7⟩ := lyN_n hok hs hw hR
  obtain ⟨h10, hr, hst⟩ := id hok
  refine ⟨h10, fun p hp => ?_, hst⟩
  obtain ⟨hT, hC, hc⟩ := hr p hp
  have hv : lyN D s - lyB D s = nI (n - n / tnx (dSt D 5)) := n7
  have e1 : dG (lyD D s) (p * 5 + 1) = dG D (p * 5 + 1) := (layG_at _ _ _ _ _ (by decide)).trans ((if_neg (by omega)).trans (if_neg (by omega)))
  refine ⟨?_, ?_⟩
  · unfold okT
    rw [e1]
    exact hT
  · by_cases h : p = s
    · subst h
      have h0 : 1 ≤ tnx (dG D (p * 5 + 2)) := nI_pos1 (hC ▸ hw)
      have ht := tkN_top (hst.2.1) h0 n3
      have e2 : dG (lyD D p) (p * 5 + 2) = nI (tnx (dG D (p * 5 + 2)) - (n - n / tnx (dSt D 5))) := by
        refine ((layG_at _ _ _ _ _ (by decide)).trans ((if_neg (by omega)).trans (if_pos ⟨rfl, rfl⟩))).trans ?_
        rw [hv]
        refine (congrArg (· - _) hC).trans ?_
        exact pk_sub ht
      rw [e2, show tnx (nI (tnx (dG D (p * 5 + 2)) - (n - n / tnx (dSt D 5)))) = tnx (dG D (p * 5 + 2)) - (n - n / tnx (dSt D 5)) from nI_clamp (by omega)]
      exact ⟨rfl, by omega⟩
    · have e2 : dG (lyD D s) (p * 5 + 2) = dG D (p * 5 + 2) := (layG_at _ _ _ _ _ (by decide)).trans ((if_neg (by omega)).trans (if_neg (by omega)))
      rw [e2]
      exact ⟨hC, hc⟩
/-- setters work on section s: the dome, how many cubes come in, the setters left -/
def wkR (s : Nat) : Nat → gDom → Int32 → gDom × Int32 × Nat
  | 0, D, v => (D, v, 0)
  | k + 1, D, v => if dG D (s * 5 + 2) ≤ 0 then (D, v, k + 1) else if rpI (dTr D) (tnx (dG D (s * 5 + 1))) 6 ≤ 0 then (D, v, k + 1) else wkR s k (lyD D s) (v + lyV D s)
theorem wkR_ok {s : Nat} : ∀ (k : Nat) (D : gDom) (v : Int32), rOK D → s < dSz D → rOK (wkR s k D v).1 ∧ dSz (wkR s k D v).1 = dSz D ∧ (wkR s k D v).2.2 ≤ k ∧ dSt (wkR s k D v).1 = dSt D
  | 0, D, v, h, _ => ⟨h, rfl, Nat.le_refl _, rfl⟩
  | k + 1, D, v, h, hs => by
    unfold wkR
    by_cases h1 : dG D (s * 5 + 2) ≤ 0
    · rw [if_pos h1]
      exact ⟨h, rfl, Nat.le_refl _, rfl⟩
    · rw [if_neg h1]
      by_cases h2 : rpI (dTr D) (tnx (dG D (s * 5 + 1))) 6 ≤ 0
      · rw [if_pos h2]
        exact ⟨h, rfl, Nat.le_refl _, rfl⟩
      · rw [if_neg h2]
        obtain ⟨a, b, c, d⟩ := wkR_ok k (lyD D s) (v + lyV D s) (rOK_ly h hs h1 h2) hs
        exact ⟨a, b.trans rfl, Nat.le_succ_of_le c, d.trans rfl⟩
theorem k_workOn (M : gMo) (s : Nat) {sc : Nat × (Nat → Int32)} {n0 : Nat} (hn0 : n0 ≤ 7) : ∀ (k : Nat) (D : gDom) (v : Int32), rOK D → s < dSz D → k ≤ 9 → gW K_Mo_workOn sc { frames := 4, locals := 95, cells := 0, slots := 0 } n0 (gD (.inl (some (.int (wkR s k D v).2.1))) (cMo (wSt (wD M (wkR s k D v).1) (wkR s k D v).2.2))) 0 0 2 [(0, .ref 0), (1, .int (nI s)), (2, .int v)] [] (cMo (wSt (wD M D) k)) := by
  intro k
  induction k with
  | zero =>
    intro D v hok hs hk
    refine gW_b D_Mo_workOn 2 2 (pc' := 6) (l' := [(0, .ref 0), (1, .int (nI s)), (2, .int v)]) (st' := [.int 0]) (h' := cMo (wSt (wD M D) 0)) (P := True) rfl trivial ?_
    refine gW_if_le (gdec_at D_Mo_workOn 4 rfl) (tgt := 53) rfl (fun _ => ?_) (fun cq => absurd (by decide) cq)
    refine gW_b D_Mo_workOn 31 1 (pc' := 54) (l' := [(0, .ref 0), (1, .int (nI s)), (2, .int v)]) (st' := [.int v]) (h' := cMo (wSt (wD M D) 0)) (P := True) rfl trivial ?_
    exact gW_iret (gdec_at D_Mo_workOn 32 rfl) rfl rfl hn0 ⟨rfl, rfl⟩ (Nat.le_of_ble_eq_true rfl) (Nat.le_of_ble_eq_true rfl)
  | succ k ih =>
    intro D v hok hs hk
    have h10 := hok.1
    obtain ⟨⟨hT, ht⟩, -, -⟩ := hok.2.1 s hs
    refine gW_b D_Mo_workOn 2 2 (pc' := 6) (l' := [(0, .ref 0), (1, .int (nI s)), (2, .int v)]) (st' := [.int (nI (k + 1))]) (h' := cMo (wSt (wD M D) (k + 1))) (P := True) rfl trivial ?_
    refine gW_if_le (gdec_at D_Mo_workOn 4 rfl) (tgt := 53) rfl (fun cq => absurd cq (mt (gle (rfl : nI (k + 1) = nI (k + 1)) (gk 0) (by omega) (by omega)).mp (by omega))) (fun _ => ?_)
    refine gW_b D_Mo_workOn 5 3 (pc' := 12) (l' := [(0, .ref 0), (1, .int (nI s)), (2, .int v)]) (st' := [.int 2, .int (nI s), .ref 0]) (h' := cMo (wSt (wD M D) (k + 1))) (P := True) rfl trivial ?_
    refine gW_callV (n_its (wSt (wD M D) (k + 1)) s 2 (by omega) (by omega)) lk_Mo_75 [0, 1, 2, 3, 4, 5, 6] (gdec_at D_Mo_workOn 8 rfl) (st := []) rfl rfl ⟨rfl, rfl⟩ (Nat.le_of_ble_eq_true rfl) rfl (by decide) rfl (Nat.le_of_ble_eq_true rfl) ⟨Nat.le_of_ble_eq_true rfl, Nat.le_of_ble_eq_true rfl⟩ ⟨Nat.le_of_ble_eq_true rfl, Nat.le_of_ble_eq_true rfl⟩ (gAft_r rfl rfl (h' := cMo (wSt (wD M D) (k + 1))) (st' := [.int ((dG D) (s * 5 + 2))]) (pc' := 15) (cs' := 0) (ss' := 0) rfl rfl rfl rfl rfl ?_)
    refine gW_if_le (gdec_at D_Mo_workOn 9 rfl) (tgt := 53) rfl (fun c => ?_) (fun c => ?_)
    · skip
      refine gW_b D_Mo_workOn 31 1 (pc' := 54) (l' := [(0, .ref 0), (1, .int (nI s)), (2, .int v)]) (st' := [.int v]) (h' := cMo (wSt (wD M D) (k + 1))) (P := True) rfl trivial ?_
      rw [show wkR s (k + 1) D v = (D, v, k + 1) from if_pos c]
      exact gW_iret (gdec_at D_Mo_workOn 32 rfl) rfl rfl hn0 ⟨rfl, rfl⟩ (Nat.le_of_ble_eq_true rfl) (Nat.le_of_ble_eq_true rfl)
    · skip
      refine gW_b D_Mo_workOn 10 4 (pc' := 22) (l' := [(0, .ref 0), (1, .int (nI s)), (2, .int v)]) (st' := [.int 1, .int (nI s), .ref 0, .ref 0]) (h' := cMo (wSt (wD M D) (k + 1))) (P := True) rfl trivial ?_
      refine gW_callV (n_its (wSt (wD M D) (k + 1)) s 1 (by omega) (by omega)) lk_Mo_75 [0, 1, 2, 3, 4, 5, 6] (gdec_at D_Mo_workOn 14 rfl) (st := [.ref 0]) rfl rfl ⟨rfl, rfl⟩ (Nat.le_of_ble_eq_true rfl) rfl (by decide) rfl (Nat.le_of_ble_eq_true rfl) ⟨Nat.le_of_ble_eq_true rfl, Nat.le_of_ble_eq_true rfl⟩ ⟨Nat.le_of_ble_eq_true rfl, Nat.le_of_ble_eq_true rfl⟩ (gAft_r rfl rfl (h' := cMo (wSt (wD M D) (k + 1))) (st' := [.int ((dG D) (s * 5 + 1)), .ref 0]) (pc' := 25) (cs' := 0) (ss' := 0) rfl rfl rfl rfl rfl ?_)
      refine gW_b D_Mo_workOn 15 1 (pc' := 26) (l' := [(0, .ref 0), (1, .int (nI s)), (2, .int v)]) (st' := [.int 1, .int ((dG D) (s * 5 + 1)), .ref 0]) (h' := cMo (wSt (wD M D) (k + 1))) (P := True) rfl trivial ?_
      refine gW_st (st' := [.int 1, .int (nI (tnx (dG D (s * 5 + 1)))), .ref 0]) (by rw [← hT]) ?_
      refine gW_callV (n_inTrays_p (wSt (wD M D) (k + 1)) (tnx (dG D (s * 5 + 1))) ht) lk_Mo_101 [0, 1, 2, 3, 4, 5, 6] (gdec_at D_Mo_workOn 16 rfl) (st := []) rfl rfl ⟨rfl, rfl⟩ (Nat.le_of_ble_eq_true rfl) rfl (by decide) rfl (Nat.le_of_ble_eq_true rfl) ⟨Nat.le_of_ble_eq_true rfl, Nat.le_of_ble_eq_true rfl⟩ ⟨Nat.le_of_ble_eq_true rfl, Nat.le_of_ble_eq_true rfl⟩ (gAft_r rfl rfl (h' := cMo (wSt (wD M D) (k + 1))) (st' := [.int (rpI (dTr D) (tnx (dG D (s * 5 + 1))) 6)]) (pc' := 29) (cs' := 0) (ss' := 0) rfl rfl rfl rfl rfl ?_)
      refine gW_if_le (gdec_at D_Mo_workOn 17 rfl) (tgt := 53) rfl (fun d => ?_) (fun d => ?_)
      · skip
        refine gW_b D_Mo_workOn 31 1 (pc' := 54) (l' := [(0, .ref 0), (1, .int (nI s)), (2, .int v)]) (st' := [.int v]) (h' := cMo (wSt (wD M D) (k + 1))) (P := True) rfl trivial ?_
        rw [show wkR s (k + 1) D v = (D, v, k + 1) from (if_neg c).trans (if_pos d)]
        exact gW_iret (gdec_at D_Mo_workOn 32 rfl) rfl rfl hn0 ⟨rfl, rfl⟩ (Nat.le_of_ble_eq_true rfl) (Nat.le_of_ble_eq_true rfl)
      · skip
        refine gW_b D_Mo_workOn 18 3 (pc' := 35) (l' := [(0, .ref 0), (1, .int (nI s)), (2, .int v)]) (st' := [.int (nI s), .ref 0, .int v]) (h' := cMo (wSt (wD M D) (k + 1))) (P := True) rfl trivial ?_
        refine gW_callV (n_layCubes (wSt (wD M D) (k + 1)) s hok hs c) lk_Mo_108 [0, 1, 2, 3, 4, 5, 6] (gdec_at D_Mo_workOn 21 rfl) (st := [.int v]) rfl rfl ⟨rfl, rfl⟩ (Nat.le_of_ble_eq_true rfl) rfl (by decide) rfl (Nat.le_of_ble_eq_true rfl) ⟨Nat.le_of_ble_eq_true rfl, Nat.le_of_ble_eq_true rfl⟩ ⟨Nat.le_of_ble_eq_true rfl, Nat.le_of_ble_eq_true rfl⟩ (gAft_r rfl rfl (h' := cMo (wSt (wD M (lyD D s)) (k + 1))) (st' := [.int (lyV D s), .int v]) (pc' := 38) (cs' := 0) (ss' := 0) rfl rfl rfl rfl rfl ?_)
        refine gW_b D_Mo_workOn 22 9 (pc' := 2) (l' := [(0, .ref 0), (1, .int (nI s)), (2, .int (v + (lyV D s)))]) (st' := []) (h' := [cO 6 [.int (mTh M), .ref 1, .ref 2, .int (nI (mN M)), .ref 3, .ref 4, .int (nI (mTy M)), .ref 5, .int ((nI (k + 1)) - 1), .ref 6, .int (nI (mPm M)), .int (nI (mSpt M)), .int (mWr M), .long (mHs M)], cI 103 (zD (lyD D s)), cI 618 (svF (mDs M)), cI 103 (zD (mSp M)), cI 60 (mBf M), cI 10 (oF (mOd M)), cI 39 (mPa M)]) (P := True) rfl trivial ?_
        rw [show ((nI (k + 1)) - 1 : Int32) = nI k from (gsub1 (rfl : nI (k + 1) = nI (k + 1)))]
        rw [show wkR s (k + 1) D v = wkR s k (lyD D s) (v + lyV D s) from (if_neg c).trans (if_neg d)]
        exact ih (lyD D s) (v + lyV D s) (rOK_ly hok hs c d) hs (by omega)
theorem n_workOn (M : gMo) (s k : Nat) (hok : rOK (mD M)) (hs : s < dSz (mD M)) (hk : k ≤ 9) : gM K_Mo_workOn { frames := 4, locals := 95, cells := 0, slots := 0 } [.ref 0, .int (nI s)] (cMo (wSt M k)) (gD (.inl (some (.int ((wkR s k (mD M) 0).2.1)))) (cMo (wSt (wD M ((wkR s k (mD M) 0).1)) ((wkR s k (mD M) 0).2.2)))) := by
  refine gM_of rfl rfl (Nat.le_of_ble_eq_true rfl) (fun sc => ?_)
  refine gW_b D_Mo_workOn 0 2 (pc' := 2) (l' := [(0, .ref 0), (1, .int (nI s)), (2, .int 0)]) (st' := []) (h' := cMo (wSt M k)) (P := True) rfl trivial ?_
  exact k_workOn M s (Nat.le_of_ble_eq_true rfl) k (mD M) 0 hok hs hk
def edS (D : gDom) (s : Nat) : gDom := if dG D (s * 5 + 2) = 0 then toD (cdD D (dDy D - dG D (s * 5 + 3))) s (dSz D - 1) else D
/-- the sections at places below p: those that want no more go -/
def edR : Nat → gDom → gDom
  | 0, D => D
  | p + 1, D => edR p (edS D p)
theorem toF_at (g : Nat → Int32) (p m q k : Nat) (hk : k < 5) (hp : p ≤ m) : toF g (5 * p) (5 * m - 5 * p) (q * 5 + k) = g ((if p ≤ q ∧ q < m then q + 1 else q) * 5 + k) := by
  unfold toF
  by_cases h : p ≤ q ∧ q < m
  · rw [if_pos h, if_pos (by omega)]
    exact congrArg g (by omega)
  · rw [if_neg h, if_neg (by omega)]
theorem rOK_to {D : gDom} {s : Nat} (h : rOK D) (hs : s < dSz D) : rOK (toD D s (dSz D - 1)) := by
  obtain ⟨h10, hr, hst⟩ := h
  refine ⟨by show dSz D - 1 ≤ 10; omega, fun p hp => ?_, hst⟩
  have hp' : p < dSz D - 1 := hp
  have hq : (if s ≤ p ∧ p < dSz D - 1 then p + 1 else p) < dSz D := by split <;> omega
  have := hr _ hq
  unfold rowOK okT at this ⊢
  show (toF (dG D) (5 * s) (5 * (dSz D - 1) - 5 * s) (p * 5 + 1) = nI (tnx (toF (dG D) (5 * s) (5 * (dSz D - 1) - 5 * s) (p * 5 + 1))) ∧ tnx (toF (dG D) (5 * s) (5 * (dSz D - 1) - 5 * s) (p * 5 + 1)) < 4) ∧ toF (dG D) (5 * s) (5 * (dSz D - 1) - 5 * s) (p * 5 + 2) = nI (tnx (toF (dG D) (5 * s) (5 * (dSz D - 1) - 5 * s) (p * 5 + 2))) ∧ tnx (toF (dG D) (5 * s) (5 * (dSz D - 1) - 5 * s) (p * 5 + 2)) ≤ 500
  rw [toF_at _ _ _ _ _ (by decide) (by omega), toF_at _ _ _ _ _ (by decide) (by omega)]
  exact this
theorem cdD_2 (D : gDom) (v : Int32) : dG (cdD D v) = dG D ∧ dSz (cdD D v) = dSz D ∧ dSt (cdD D v) = dSt D := by
  unfold cdD
  split <;> exact ⟨rfl, rfl, rfl⟩
theorem rOK_cd {D : gDom} {v : Int32} (h : rOK D) : rOK (cdD D v) := by
  unfold cdD
  split <;> exact h
theorem edS_ok {D : gDom} {s : Nat} (h : rOK D) (hs : s < dSz D) : rOK (edS D s) ∧ s ≤ dSz (edS D s) ∧ dSt (edS D s) = dSt D := by
  unfold edS
  by_cases h0 : dG D (s * 5 + 2) = 0
  · rw [if_pos h0]
    obtain ⟨e1, e2, e3⟩ := cdD_2 D (dDy D - dG D (s * 5 + 3))
    have := rOK_to (rOK_cd (v := dDy D - dG D (s * 5 + 3)) h) (s := s) (by rw [e2]; exact hs)
    rw [e2] at this
    exact ⟨this, by show s ≤ dSz D - 1; omega, e3⟩
  · rw [if_neg h0]
    exact ⟨h, by omega, rfl⟩
theorem edR_ok : ∀ (p : Nat) (D : gDom), rOK D → p ≤ dSz D → rOK (edR p D) ∧ dSt (edR p D) = dSt D
  | 0, D, h, _ => ⟨h, rfl⟩
  | p + 1, D, h, hp => by
    obtain ⟨a, b, c⟩ := edS_ok h (s := p) (by omega)
    obtain ⟨d, e⟩ := edR_ok p (edS D p) a b
    exact ⟨d, e.trans c⟩
theorem k_endDone (M : gMo) {sc : Nat × (Nat → Int32)} {n0 : Nat} (hn0 : n0 ≤ 7) : ∀ (p : Nat) (D : gDom), p ≤ dSz D → dSz D ≤ 10 → gW K_Mo_endDone sc { frames := 1, locals := 22, cells := 0, slots := 0 } n0 (gD (.inl none) (cMo (wD M (edR p D)))) 0 0 10 [(0, .ref 0), (1, .int (pm1 p))] [] (cMo (wD M D)) := by
  intro p
  induction p with
  | zero =>
    intro D hp hs
    rw [show pm1 0 = (-1) from by decide]
    refine gW_b D_Mo_endDone 7 1 (pc' := 11) (l' := [(0, .ref 0), (1, .int (-1))]) (st' := [.int (-1)]) (h' := cMo (wD M D)) (P := True) rfl trivial ?_
    refine gW_if_lt (gdec_at D_Mo_endDone 8 rfl) (tgt := 98) rfl (fun _ => ?_) (fun cq => absurd (by decide) cq)
    exact gW_vret (gdec_at D_Mo_endDone 61 rfl) rfl hn0 ⟨rfl, rfl⟩ (Nat.le_of_ble_eq_true rfl) (Nat.le_of_ble_eq_true rfl)
  | succ p ih =>
    intro D hp hs
    rw [pm1_s p]
    refine gW_b D_Mo_endDone 7 1 (pc' := 11) (l' := [(0, .ref 0), (1, .int (nI p))]) (st' := [.int (nI p)]) (h' := cMo (wD M D)) (P := True) rfl trivial ?_
    refine gW_if_lt (gdec_at D_Mo_endDone 8 rfl) (tgt := 98) rfl (fun cq => absurd cq (nI_pos (n := p) (by omega))) (fun _ => ?_)
    refine gW_b D_Mo_endDone 9 3 (pc' := 17) (l' := [(0, .ref 0), (1, .int (nI p))]) (st' := [.int 2, .int (nI p), .ref 0]) (h' := cMo (wD M D)) (P := True) rfl trivial ?_
    refine gW_callV (n_its (wD M D) p 2 (by omega) (by omega)) lk_Mo_75 [0, 1, 2, 3, 4, 5, 6] (gdec_at D_Mo_endDone 12 rfl) (st := []) rfl rfl ⟨rfl, rfl⟩ (Nat.le_of_ble_eq_true rfl) rfl (by decide) rfl (Nat.le_of_ble_eq_true rfl) ⟨Nat.le_of_ble_eq_true rfl, Nat.le_of_ble_eq_true rfl⟩ ⟨Nat.le_of_ble_eq_true rfl, Nat.le_of_ble_eq_true rfl⟩ (gAft_r rfl rfl (h' := cMo (wD M D)) (st' := [.int ((dG D) (p * 5 + 2))]) (pc' := 20) (cs' := 0) (ss' := 0) rfl rfl rfl rfl rfl ?_)
    refine gW_if_ne (gdec_at D_Mo_endDone 13 rfl) (tgt := 92) rfl (fun d => ?_) (fun d => ?_)
    · skip
      refine gW_b D_Mo_endDone 59 2 (pc' := 10) (l' := [(0, .ref 0), (1, .int ((nI p) + (-1)))]) (st' := []) (h' := cMo (wD M D)) (P := True) rfl trivial ?_
      rw [show edR (p + 1) D = edR p D from congrArg (edR p) (if_neg d)]
      exact ih D (by omega) hs
    · skip
      rw [show edR (p + 1) D = edR p (toD (cdD D (dDy D - dG D (p * 5 + 3))) p (dSz D - 1)) from congrArg (edR p) (if_pos d)]
      refine gW_b D_Mo_endDone 14 7 (pc' := 33) (l' := [(0, .ref 0), (1, .int (nI p))]) (st' := [.int 3, .int (nI p), .ref 0, .int (dDy D)]) (h' := cMo (wD M D)) (P := vp_in 34 103 ∧ True) rfl ⟨(gvl 34 103 (by omega) (by omega)), trivial⟩ ?_
      refine gW_callV (n_its (wD M D) p 3 (by omega) (by omega)) lk_Mo_75 [0, 1, 2, 3, 4, 5, 6] (gdec_at D_Mo_endDone 21 rfl) (st := [.int (dDy D)]) rfl rfl ⟨rfl, rfl⟩ (Nat.le_of_ble_eq_true rfl) rfl (by decide) rfl (Nat.le_of_ble_eq_true rfl) ⟨Nat.le_of_ble_eq_true rfl, Nat.le_of_ble_eq_true rfl⟩ ⟨Nat.le_of_ble_eq_true rfl, Nat.le_of_ble_eq_true rfl⟩ (gAft_r rfl rfl (h' := cMo (wD M D)) (st' := [.int ((dG D) (p * 5 + 3)), .int (dDy D)]) (pc' := 36) (cs' := 0) (ss' := 0) rfl rfl rfl rfl rfl ?_)
      refine gW_b D_Mo_endDone 22 10 (pc' := 49) (l' := [(0, .ref 0), (1, .int (nI p)), (2, .int ((dDy D) - ((dG D) (p * 5 + 3))))]) (st' := []) (h' := [cO 6 [.int (mTh M), .ref 1, .ref 2, .int (nI (mN M)), .ref 3, .ref 4, .int (nI (mTy M)), .ref 5, .int (nI (mSt M)), .ref 6, .int (nI (mPm M)), .int (nI (mSpt M)), .int (mWr M), .long (mHs M)], cI 103 (upd (zD D) 35 ((dDn D) + 1)), cI 618 (svF (mDs M)), cI 103 (zD (mSp M)), cI 60 (mBf M), cI 10 (oF (mOd M)), cI 39 (mPa M)]) (P := vp_in 35 103 ∧ vp_in 35 103 ∧ True) rfl ⟨(gvl 35 103 (by omega) (by omega)), (gvl 35 103 (by omega) (by omega)), trivial⟩ ?_
      rw [show upd (zD D) 35 ((dDn D) + 1) = zD (dTr D, dG D, dSz D, dC D, dSt D, dSh D, dCu D, dLa D, dSw D, dDy D, (dDn D) + 1, dLt D, dLd D, dSo D) from zu_35 D ((dDn D) + 1)]
      refine gW_b D_Mo_endDone 32 6 (pc' := 58) (l' := [(0, .ref 0), (1, .int (nI p)), (2, .int ((dDy D) - ((dG D) (p * 5 + 3))))]) (st' := [.int ((dDy D) - ((dG D) (p * 5 + 3))), .int (dLt D), .int 36, .ref 1]) (h' := cMo (wD M (dTr D, dG D, dSz D, dC D, dSt D, dSh D, dCu D, dLa D, dSw D, dDy D, (dDn D) + 1, dLt D, dLd D, dSo D))) (P := vp_in 36 103 ∧ True) rfl ⟨(gvl 36 103 (by omega) (by omega)), trivial⟩ ?_
      refine gW_if_le (gdec_at D_Mo_endDone 38 rfl) (tgt := 65) rfl (fun e => ?_) (fun e => ?_)
      · skip
        refine gW_b D_Mo_endDone 41 3 (pc' := 68) (l' := [(0, .ref 0), (1, .int (nI p)), (2, .int ((dDy D) - ((dG D) (p * 5 + 3))))]) (st' := []) (h' := [cO 6 [.int (mTh M), .ref 1, .ref 2, .int (nI (mN M)), .ref 3, .ref 4, .int (nI (mTy M)), .ref 5, .int (nI (mSt M)), .ref 6, .int (nI (mPm M)), .int (nI (mSpt M)), .int (mWr M), .long (mHs M)], cI 103 (upd (zD (dTr D, dG D, dSz D, dC D, dSt D, dSh D, dCu D, dLa D, dSw D, dDy D, (dDn D) + 1, dLt D, dLd D, dSo D)) 36 ((dLt D) + 0)), cI 618 (svF (mDs M)), cI 103 (zD (mSp M)), cI 60 (mBf M), cI 10 (oF (mOd M)), cI 39 (mPa M)]) (P := vp_in 36 103 ∧ True) rfl ⟨(gvl 36 103 (by omega) (by omega)), trivial⟩ ?_
        rw [show upd (zD (dTr D, dG D, dSz D, dC D, dSt D, dSh D, dCu D, dLa D, dSw D, dDy D, (dDn D) + 1, dLt D, dLd D, dSo D)) 36 ((dLt D) + 0) = zD (dTr D, dG D, dSz D, dC D, dSt D, dSh D, dCu D, dLa D, dSw D, dDy D, (dDn D) + 1, (dLt D) + 0, dLd D, dSo D) from zu_36 (dTr D, dG D, dSz D, dC D, dSt D, dSh D, dCu D, dLa D, dSw D, dDy D, (dDn D) + 1, dLt D, dLd D, dSo D) ((dLt D) + 0)]
        refine gW_b D_Mo_endDone 44 6 (pc' := 77) (l' := [(0, .ref 0), (1, .int (nI p)), (2, .int ((dDy D) - ((dG D) (p * 5 + 3))))]) (st' := [.int ((dDy D) - ((dG D) (p * 5 + 3))), .int (dLd D), .int 37, .ref 1]) (h' := cMo (wD M (dTr D, dG D, dSz D, dC D, dSt D, dSh D, dCu D, dLa D, dSw D, dDy D, (dDn D) + 1, (dLt D) + 0, dLd D, dSo D))) (P := vp_in 37 103 ∧ True) rfl ⟨(gvl 37 103 (by omega) (by omega)), trivial⟩ ?_
        rw [Int32.add_zero]
        refine gW_if_le (gdec_at D_Mo_endDone 50 rfl) (tgt := 84) rfl (fun _ => ?_) (fun cq => absurd e cq)
        refine gW_b D_Mo_endDone 53 3 (pc' := 87) (l' := [(0, .ref 0), (1, .int (nI p)), (2, .int ((dDy D) - ((dG D) (p * 5 + 3))))]) (st' := []) (h' := [cO 6 [.int (mTh M), .ref 1, .ref 2, .int (nI (mN M)), .ref 3, .ref 4, .int (nI (mTy M)), .ref 5, .int (nI (mSt M)), .ref 6, .int (nI (mPm M)), .int (nI (mSpt M)), .int (mWr M), .long (mHs M)], cI 103 (upd (zD (dTr D, dG D, dSz D, dC D, dSt D, dSh D, dCu D, dLa D, dSw D, dDy D, dDn D + 1, dLt D, dLd D, dSo D)) 37 ((dLd D) + 0)), cI 618 (svF (mDs M)), cI 103 (zD (mSp M)), cI 60 (mBf M), cI 10 (oF (mOd M)), cI 39 (mPa M)]) (P := vp_in 37 103 ∧ True) rfl ⟨(gvl 37 103 (by omega) (by omega)), trivial⟩ ?_
        rw [show upd (zD (dTr D, dG D, dSz D, dC D, dSt D, dSh D, dCu D, dLa D, dSw D, dDy D, dDn D + 1, dLt D, dLd D, dSo D)) 37 ((dLd D) + 0) = zD (dTr D, dG D, dSz D, dC D, dSt D, dSh D, dCu D, dLa D, dSw D, dDy D, dDn D + 1, dLt D, (dLd D) + 0, dSo D) from zu_37 (dTr D, dG D, dSz D, dC D, dSt D, dSh D, dCu D, dLa D, dSw D, dDy D, dDn D + 1, dLt D, dLd D, dSo D) ((dLd D) + 0)]
        refine gW_b D_Mo_endDone 56 2 (pc' := 89) (l' := [(0, .ref 0), (1, .int (nI p)), (2, .int ((dDy D) - ((dG D) (p * 5 + 3))))]) (st' := [.int (nI p), .ref 0]) (h' := cMo (wD M (dTr D, dG D, dSz D, dC D, dSt D, dSh D, dCu D, dLa D, dSw D, dDy D, dDn D + 1, dLt D, (dLd D) + 0, dSo D))) (P := True) rfl trivial ?_
        rw [Int32.add_zero]
        refine gW_callV (n_takeOut2 (wD M (dTr D, dG D, dSz D, dC D, dSt D, dSh D, dCu D, dLa D, dSw D, dDy D, dDn D + 1, dLt D, dLd D, dSo D)) p (show p < dSz D by omega) (show dSz D ≤ 10 from hs)) lk_Mo_81 [0, 1, 2, 3, 4, 5, 6] (gdec_at D_Mo_endDone 58 rfl) (st := []) rfl rfl ⟨rfl, rfl⟩ (Nat.le_of_ble_eq_true rfl) rfl (by decide) rfl (Nat.le_of_ble_eq_true rfl) ⟨Nat.le_of_ble_eq_true rfl, Nat.le_of_ble_eq_true rfl⟩ ⟨Nat.le_of_ble_eq_true rfl, Nat.le_of_ble_eq_true rfl⟩ (gAft_r rfl rfl (h' := cMo (wD M (toD (dTr D, dG D, dSz D, dC D, dSt D, dSh D, dCu D, dLa D, dSw D, dDy D, dDn D + 1, dLt D, dLd D, dSo D) p (dSz D - 1)))) (st' := []) (pc' := 92) (cs' := 0) (ss' := 0) rfl rfl rfl rfl rfl ?_)
        refine gW_b D_Mo_endDone 59 2 (pc' := 10) (l' := [(0, .ref 0), (1, .int ((nI p) + (-1))), (2, .int ((dDy D) - ((dG D) (p * 5 + 3))))]) (st' := []) (h' := cMo (wD M (toD (dTr D, dG D, dSz D, dC D, dSt D, dSh D, dCu D, dLa D, dSw D, dDy D, dDn D + 1, dLt D, dLd D, dSo D) p (dSz D - 1)))) (P := True) rfl trivial ?_
        refine gW_l [0, 1] (l' := [(0, .ref 0), (1, .int ((nI p) + (-1)))]) rfl ?_
        have hc : cdD D (dDy D - dG D (p * 5 + 3)) = _ := if_pos e
        rw [hc]
        exact ih _ (show p ≤ dSz D - 1 by omega) (show dSz D - 1 ≤ 10 by omega)
      · skip
        refine gW_b D_Mo_endDone 39 2 (pc' := 66) (l' := [(0, .ref 0), (1, .int (nI p)), (2, .int ((dDy D) - ((dG D) (p * 5 + 3))))]) (st' := [.int 1, .int (dLt D), .int 36, .ref 1]) (h' := cMo (wD M (dTr D, dG D, dSz D, dC D, dSt D, dSh D, dCu D, dLa D, dSw D, dDy D, (dDn D) + 1, dLt D, dLd D, dSo D))) (P := True) rfl trivial ?_
        refine gW_b D_Mo_endDone 42 2 (pc' := 68) (l' := [(0, .ref 0), (1, .int (nI p)), (2, .int ((dDy D) - ((dG D) (p * 5 + 3))))]) (st' := []) (h' := [cO 6 [.int (mTh M), .ref 1, .ref 2, .int (nI (mN M)), .ref 3, .ref 4, .int (nI (mTy M)), .ref 5, .int (nI (mSt M)), .ref 6, .int (nI (mPm M)), .int (nI (mSpt M)), .int (mWr M), .long (mHs M)], cI 103 (upd (zD (dTr D, dG D, dSz D, dC D, dSt D, dSh D, dCu D, dLa D, dSw D, dDy D, (dDn D) + 1, dLt D, dLd D, dSo D)) 36 ((dLt D) + 1)), cI 618 (svF (mDs M)), cI 103 (zD (mSp M)), cI 60 (mBf M), cI 10 (oF (mOd M)), cI 39 (mPa M)]) (P := vp_in 36 103 ∧ True) rfl ⟨(gvl 36 103 (by omega) (by omega)), trivial⟩ ?_
        rw [show upd (zD (dTr D, dG D, dSz D, dC D, dSt D, dSh D, dCu D, dLa D, dSw D, dDy D, (dDn D) + 1, dLt D, dLd D, dSo D)) 36 ((dLt D) + 1) = zD (dTr D, dG D, dSz D, dC D, dSt D, dSh D, dCu D, dLa D, dSw D, dDy D, (dDn D) + 1, (dLt D) + 1, dLd D, dSo D) from zu_36 (dTr D, dG D, dSz D, dC D, dSt D, dSh D, dCu D, dLa D, dSw D, dDy D, (dDn D) + 1, dLt D, dLd D, dSo D) ((dLt D) + 1)]
        refine gW_b D_Mo_endDone 44 6 (pc' := 77) (l' := [(0, .ref 0), (1, .int (nI p)), (2, .int ((dDy D) - ((dG D) (p * 5 + 3))))]) (st' := [.int ((dDy D) - ((dG D) (p * 5 + 3))), .int (dLd D), .int 37, .ref 1]) (h' := cMo (wD M (dTr D, dG D, dSz D, dC D, dSt D, dSh D, dCu D, dLa D, dSw D, dDy D, (dDn D) + 1, (dLt D) + 1, dLd D, dSo D))) (P := vp_in 37 103 ∧ True) rfl ⟨(gvl 37 103 (by omega) (by omega)), trivial⟩ ?_
        refine gW_if_le (gdec_at D_Mo_endDone 50 rfl) (tgt := 84) rfl (fun cq => absurd cq e) (fun _ => ?_)
        refine gW_b D_Mo_endDone 51 2 (pc' := 85) (l' := [(0, .ref 0), (1, .int (nI p)), (2, .int ((dDy D) - ((dG D) (p * 5 + 3))))]) (st' := [.int ((dDy D) - ((dG D) (p * 5 + 3))), .int (dLd D), .int 37, .ref 1]) (h' := cMo (wD M (dTr D, dG D, dSz D, dC D, dSt D, dSh D, dCu D, dLa D, dSw D, dDy D, (dDn D) + 1, (dLt D) + 1, dLd D, dSo D))) (P := True) rfl trivial ?_
        refine gW_b D_Mo_endDone 54 2 (pc' := 87) (l' := [(0, .ref 0), (1, .int (nI p)), (2, .int ((dDy D) - ((dG D) (p * 5 + 3))))]) (st' := []) (h' := [cO 6 [.int (mTh M), .ref 1, .ref 2, .int (nI (mN M)), .ref 3, .ref 4, .int (nI (mTy M)), .ref 5, .int (nI (mSt M)), .ref 6, .int (nI (mPm M)), .int (nI (mSpt M)), .int (mWr M), .long (mHs M)], cI 103 (upd (zD (dTr D, dG D, dSz D, dC D, dSt D, dSh D, dCu D, dLa D, dSw D, dDy D, (dDn D) + 1, (dLt D) + 1, dLd D, dSo D)) 37 ((dLd D) + ((dDy D) - ((dG D) (p * 5 + 3))))), cI 618 (svF (mDs M)), cI 103 (zD (mSp M)), cI 60 (mBf M), cI 10 (oF (mOd M)), cI 39 (mPa M)]) (P := vp_in 37 103 ∧ True) rfl ⟨(gvl 37 103 (by omega) (by omega)), trivial⟩ ?_
        rw [show upd (zD (dTr D, dG D, dSz D, dC D, dSt D, dSh D, dCu D, dLa D, dSw D, dDy D, (dDn D) + 1, (dLt D) + 1, dLd D, dSo D)) 37 ((dLd D) + ((dDy D) - ((dG D) (p * 5 + 3)))) = zD (dTr D, dG D, dSz D, dC D, dSt D, dSh D, dCu D, dLa D, dSw D, dDy D, (dDn D) + 1, (dLt D) + 1, (dLd D) + ((dDy D) - ((dG D) (p * 5 + 3))), dSo D) from zu_37 (dTr D, dG D, dSz D, dC D, dSt D, dSh D, dCu D, dLa D, dSw D, dDy D, (dDn D) + 1, (dLt D) + 1, dLd D, dSo D) ((dLd D) + ((dDy D) - ((dG D) (p * 5 + 3))))]
        refine gW_b D_Mo_endDone 56 2 (pc' := 89) (l' := [(0, .ref 0), (1, .int (nI p)), (2, .int ((dDy D) - ((dG D) (p * 5 + 3))))]) (st' := [.int (nI p), .ref 0]) (h' := cMo (wD M (dTr D, dG D, dSz D, dC D, dSt D, dSh D, dCu D, dLa D, dSw D, dDy D, (dDn D) + 1, (dLt D) + 1, (dLd D) + ((dDy D) - ((dG D) (p * 5 + 3))), dSo D))) (P := True) rfl trivial ?_
        refine gW_callV (n_takeOut2 (wD M (dTr D, dG D, dSz D, dC D, dSt D, dSh D, dCu D, dLa D, dSw D, dDy D, (dDn D) + 1, (dLt D) + 1, (dLd D) + ((dDy D) - ((dG D) (p * 5 + 3))), dSo D)) p (show p < dSz D by omega) (show dSz D ≤ 10 from hs)) lk_Mo_81 [0, 1, 2, 3, 4, 5, 6] (gdec_at D_Mo_endDone 58 rfl) (st := []) rfl rfl ⟨rfl, rfl⟩ (Nat.le_of_ble_eq_true rfl) rfl (by decide) rfl (Nat.le_of_ble_eq_true rfl) ⟨Nat.le_of_ble_eq_true rfl, Nat.le_of_ble_eq_true rfl⟩ ⟨Nat.le_of_ble_eq_true rfl, Nat.le_of_ble_eq_true rfl⟩ (gAft_r rfl rfl (h' := cMo (wD M (toD (dTr D, dG D, dSz D, dC D, dSt D, dSh D, dCu D, dLa D, dSw D, dDy D, (dDn D) + 1, (dLt D) + 1, (dLd D) + ((dDy D) - ((dG D) (p * 5 + 3))), dSo D) p (dSz D - 1)))) (st' := []) (pc' := 92) (cs' := 0) (ss' := 0) rfl rfl rfl rfl rfl ?_)
        refine gW_b D_Mo_endDone 59 2 (pc' := 10) (l' := [(0, .ref 0), (1, .int ((nI p) + (-1))), (2, .int ((dDy D) - ((dG D) (p * 5 + 3))))]) (st' := []) (h' := cMo (wD M (toD (dTr D, dG D, dSz D, dC D, dSt D, dSh D, dCu D, dLa D, dSw D, dDy D, (dDn D) + 1, (dLt D) + 1, (dLd D) + ((dDy D) - ((dG D) (p * 5 + 3))), dSo D) p (dSz D - 1)))) (P := True) rfl trivial ?_
        refine gW_l [0, 1] (l' := [(0, .ref 0), (1, .int ((nI p) + (-1)))]) rfl ?_
        have hc : cdD D (dDy D - dG D (p * 5 + 3)) = _ := if_neg e
        rw [hc]
        exact ih _ (show p ≤ dSz D - 1 by omega) (show dSz D - 1 ≤ 10 by omega)
theorem n_endDone (M : gMo) (hs : dSz (mD M) ≤ 10) : gM K_Mo_endDone { frames := 1, locals := 22, cells := 0, slots := 0 } [.ref 0] (cMo M) (gD (.inl none) (cMo (wD M (edR (dSz (mD M)) (mD M))))) := by
  refine gM_of rfl rfl (Nat.le_of_ble_eq_true rfl) (fun sc => ?_)
  refine gW_b D_Mo_endDone 0 7 (pc' := 10) (l' := [(0, .ref 0), (1, .int ((nI (dSz (mD M))) - 1))]) (st' := []) (h' := cMo M) (P := vp_in 52 103 ∧ True) rfl ⟨(gvl 52 103 (by omega) (by omega)), trivial⟩ ?_
  rw [pm1_sub]
  exact k_endDone M (Nat.le_of_ble_eq_true rfl) (dSz (mD M)) (mD M) (Nat.le_refl _) hs
