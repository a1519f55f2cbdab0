/-! THE REFERENCE's days don't depend on what lies in its order's row; contracts up to its scratch cells -/
theorem loI_pt {k : Nat} {g : Nat → Int32} {s : Nat} : ∀ (a : Nat) (od od' : Nat → Nat) (j : Nat), (∀ i, i < a → od i = od' i) → (j ≤ a ∨ od j = od' j) → loI k g s a od j = loI k g s a od' j
  | 0, od, od', j, h, hj => by
    unfold loI updN
    by_cases h0 : j = 0
    · rw [if_pos h0, if_pos h0]
    · rw [if_neg h0, if_neg h0]
      exact hj.resolve_left (by omega)
  | a + 1, od, od', j, h, hj => by
    unfold loI
    rw [h a (by omega)]
    by_cases hc : bI (cb k g s (od' a)) = 0
    · rw [if_pos hc, if_pos hc]
      unfold updN
      by_cases h0 : j = a + 1
      · rw [if_pos h0, if_pos h0]
      · rw [if_neg h0, if_neg h0]
        rcases hj with hj | hj
        · exact h j (by omega)
        · exact hj
    · rw [if_neg hc, if_neg hc]
      refine loI_pt a _ _ j (fun i hi => ?_) ?_
      · unfold updN
        rw [if_neg (by omega), if_neg (by omega)]
        exact h i (by omega)
      · unfold updN
        by_cases h0 : j = a + 1
        · exact Or.inr (by rw [if_pos h0, if_pos h0])
        · rw [if_neg h0, if_neg h0]
          rcases hj with hj | hj
          · exact Or.inl (by omega)
          · exact Or.inr hj
theorem loR_pt {k : Nat} {g : Nat → Int32} : ∀ (s : Nat) (od od' : Nat → Nat) (j : Nat), (j < s ∨ od j = od' j) → loR k g s od j = loR k g s od' j
  | 0, od, od', j, h => h.resolve_left (by omega)
  | s + 1, od, od', j, h => loI_pt s _ _ j (fun i hi => loR_pt s od od' i (Or.inl hi)) (by
      rcases h with h | h
      · exact Or.inl (by omega)
      · exact Or.inr (loR_pt s od od' j (Or.inr h)))
theorem w2_pt {od od' : Nat → Nat} : ∀ (n k : Nat) (D : gDom) (v : Int32) (s : Nat), (∀ j, j < k + n → od j = od' j) → w2 od n k D v s = w2 od' n k D v s
  | 0, _, _, _, _, _ => rfl
  | n + 1, k, D, v, s, h => by
    unfold w2
    rw [h k (by omega)]
    exact w2_pt n (k + 1) _ _ _ (fun j hj => h j (by omega))
def od0 : Nat → Nat := fun _ => 0
theorem odOK_0 : odOK od0 := fun _ => by unfold od0; decide
theorem rwC_od (D : gDom) (od : Nat → Nat) : rwC D od = rwC D od0 := by
  unfold rwC
  exact w2_pt _ _ _ _ _ (fun j hj => loR_pt _ _ _ j (Or.inl (by omega)))
/-- a day of the reference: the dome behind it, the cubes that came in; the order of its sections -/
def cwD (D : gDom) : gDom := rwD D od0
def cwL (D : gDom) : Int32 := (rwC D od0).2.1
def ord (D : gDom) (p : Nat) : Nat := rwO D od0 p
theorem rwD_od (D : gDom) (od : Nat → Nat) : rwD D od = cwD D := by
  unfold cwD rwD
  rw [rwC_od D od]
theorem rwV_od (D : gDom) (od : Nat → Nat) : (rwC D od).2.1 = cwL D := by
  unfold cwL
  rw [rwC_od D od]
theorem rwO_od (D : gDom) (od : Nat → Nat) {p : Nat} (hp : p < dSz D) : rwO D od p = ord D p := loR_pt _ _ _ p (Or.inl hp)
def dyC (D : gDom) : Nat → gDom × Int32
  | 0 => (D, 0)
  | n + 1 => (cwD (dyC D n).1, (dyC D n).2 + cwL (dyC D n).1)
theorem dyR_C (D : gDom) (od : Nat → Nat) (st : Nat) : ∀ n, (dyR D od st n).1 = (dyC D n).1 ∧ (dyR D od st n).2.2.2 = (dyC D n).2
  | 0 => ⟨rfl, rfl⟩
  | n + 1 => by
    obtain ⟨a, b⟩ := dyR_C D od st n
    refine ⟨?_, ?_⟩
    · show rwD (dyR D od st n).1 (dyR D od st n).2.1 = cwD (dyC D n).1
      rw [rwD_od, a]
    · show (dyR D od st n).2.2.2 + (rwC (dyR D od st n).1 (dyR D od st n).2.1).2.1 = (dyC D n).2 + cwL (dyC D n).1
      rw [rwV_od, a, b]
theorem rOK_cw {D : gDom} (h : rOK D) : rOK (cwD D) ∧ dSt (cwD D) = dSt D := rOK_D od0 h
theorem dyC_ok {D : gDom} (h : rOK D) : ∀ n, rOK (dyC D n).1 ∧ dSt (dyC D n).1 = dSt D
  | 0 => ⟨h, rfl⟩
  | n + 1 => by
    obtain ⟨a, b⟩ := dyC_ok h n
    obtain ⟨c, d⟩ := rOK_cw a
    exact ⟨c, d.trans b⟩
/-- the end of a method that leaves M, but for order, setters and the spare row -/
def gXs (V : Option Value) (M : gMo) : gO → gH → Prop := fun o h' => ∃ (od : Nat → Nat) (st : Nat) (sp : gDom), odOK od ∧ o = .inl V ∧ h' = cMo (wSp (wSt (wOd M od) st) sp)
theorem gXs_of {V : Option Value} {M : gMo} (od : Nat → Nat) (st : Nat) (sp : gDom) (h : odOK od) : gXs V M (.inl V) (cMo (wSp (wSt (wOd M od) st) sp)) := ⟨od, st, sp, h, rfl, rfl⟩
section GE
variable {K : gK} {sc : Nat × (Nat → Int32)} {R R' : Room} {n0 : Nat} {E : gO → gH → Prop} {cs ss pc : Nat} {l : gL} {st : List Value}
/-- behind a call that leaves M, but for the scratch cells -/
theorem gAft_e {V : Option Value} {M0 M : gMo} {st' : List Value} {pc' cs' ss' : Nat} (hV : V.map (gmv (gren [0, 1, 2, 3, 4, 5, 6] 7)) = V) (hw : V.toList.all (gwv 7) = true) (hs : V.toList ++ st = st') (hpc : pc + 3 = pc') (hcs : cs + R'.cells = cs') (hss : ss + R'.slots = ss') (k : ∀ (od : Nat → Nat) (s1 : Nat) (sp : gDom), odOK od → gW K sc R n0 E cs' ss' pc' l st' (cMo (wSp (wSt (wOd M od) s1) sp))) : gAft K sc R R' n0 E (gXs V M) cs ss pc l st (cMo M0) (cMo M0) [0, 1, 2, 3, 4, 5, 6] := by
  subst hs; subst hpc; subst hcs; subst hss
  refine ⟨fun w x hx => ?_, fun X x hx => ?_⟩
  · obtain ⟨od, s1, sp, ho, h1, rfl⟩ := hx
    cases h1
    refine ⟨rfl, rfl, fun x hx => ?_, ?_⟩
    · subst hx
      exact List.all_eq_true.mp hw x (by simp)
    · have h2 := k od s1 sp ho
      rw [← hV] at h2
      exact h2
  · obtain ⟨od, s1, sp, ho, h1, rfl⟩ := hx
    cases h1
end GE
/-- a contract whose end is weaker -/
theorem gM_wk {K : gK} {R : Room} {as : List Value} {h : gH} {E E' : gO → gH → Prop} (hE : ∀ o h', E o h' → E' o h') (m : gM K R as h E) : gM K R as h E' := by
  intro la hla G sc ad sz
  refine Jvm.Free.MetFree.mono (m la hla G sc ad sz) (fun _ _ h => h) (fun _ _ _ _ _ h => h) ?_
  intro a s o s' _ h
  rcases h with ⟨⟨⟨ad', v, h', h1, h2, h3, h4, h5, h6⟩, hF⟩, hL⟩ | ⟨q, hq, Ex, ce, L, ⟨⟨h', h2, h3⟩, hF⟩, rest⟩
  · exact Or.inl ⟨⟨⟨ad', v, h', h1, hE _ _ h2, h3, h4, h5, h6⟩, hF⟩, hL⟩
  · exact Or.inr ⟨q, hq, Ex, ce, L, ⟨⟨h', hE _ _ h2, h3⟩, hF⟩, rest⟩
/-- the same, the spare row known -/
def gXo (V : Option Value) (M : gMo) : gO → gH → Prop := fun o h' => ∃ (od : Nat → Nat) (st : Nat), odOK od ∧ o = .inl V ∧ h' = cMo (wSt (wOd M od) st)
section GE
variable {K : gK} {sc : Nat × (Nat → Int32)} {R R' : Room} {n0 : Nat} {E : gO → gH → Prop} {cs ss pc : Nat} {l : gL} {st : List Value}
theorem gAft_o {V : Option Value} {M0 M : gMo} {st' : List Value} {pc' cs' ss' : Nat} (hV : V.map (gmv (gren [0, 1, 2, 3, 4, 5, 6] 7)) = V) (hw : V.toList.all (gwv 7) = true) (hs : V.toList ++ st = st') (hpc : pc + 3 = pc') (hcs : cs + R'.cells = cs') (hss : ss + R'.slots = ss') (k : ∀ (od : Nat → Nat) (s1 : Nat), odOK od → gW K sc R n0 E cs' ss' pc' l st' (cMo (wSt (wOd M od) s1))) : gAft K sc R R' n0 E (gXo V M) cs ss pc l st (cMo M0) (cMo M0) [0, 1, 2, 3, 4, 5, 6] := by
  subst hs; subst hpc; subst hcs; subst hss
  refine ⟨fun w x hx => ?_, fun X x hx => ?_⟩
  · obtain ⟨od, s1, ho, h1, rfl⟩ := hx
    cases h1
    refine ⟨rfl, rfl, fun x hx => ?_, ?_⟩
    · subst hx
      exact List.all_eq_true.mp hw x (by simp)
    · have h2 := k od s1 ho
      rw [← hV] at h2
      exact h2
  · obtain ⟨od, s1, ho, h1, rfl⟩ := hx
    cases h1
end GE
