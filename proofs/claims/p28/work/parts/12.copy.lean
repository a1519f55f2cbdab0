/-! System.arraycopy of a whole row of ints onto another of the same length -/
theorem grow_eq {c : ClassId} {n : Nat} {f g : Nat → Int32} : arrV c n (fun j => Value.int (va_cpy f g 0 0 n j)) = arrV c n (fun j => Value.int (f j)) := by
  unfold arrV
  congr 1
  congr 1
  funext j
  have h : va_cpy f g 0 0 n j.val = f j.val := sb_cpy0 j.isLt
  show Value.int (va_cpy f g 0 0 n j.val) = Value.int (f j.val)
  rw [h]
theorem gint_nn {z : Int32} (hz : ¬ z < 0) : z.toInt = (z.toNatClampNeg : Int) := by
  have h0 : (0 : Int) ≤ z.toInt := by
    have := Int32.not_lt.mp hz
    simpa using Int32.le_iff_toInt_le.mp this
  show z.toInt = ((z.toInt.toNat : Nat) : Int)
  omega
section GY
variable {K : gK} {sc : Nat × (Nat → Int32)} {R : Room} {n0 : Nat} {E : gO → gH → Prop} {cs ss pc : Nat} {l : gL} {st : List Value} {h : gH}
theorem gW_copy {i a0 a1 N : Nat} {n : Int32} {f g : Nat → Int32} (hl0 : Cond.methodLink (gown K.1) i arraycopyName ∈ gTs) (hd : decode K.2.2.1 pc = .ok (.invokestatic i, 3)) (h0 : h[a0]? = some (cI N f)) (h1 : h[a1]? = some (cI N g)) (hn : n = nI N) (hN : N < 2 ^ 31) (hf : 1 ≤ R.frames) (hlo : (st.map fun v => v.category).sum + (nativeFrameWords "java/lang/System" "arraycopy" 5 + 11) ≤ R.locals)
    (k : gW K sc R n0 E cs ss (pc + 3) l st (h.set a1 (cI N f))) : gW K sc R n0 E cs ss pc l (.int n :: .int 0 :: .ref a1 :: .int 0 :: .ref a0 :: st) h := by
  intro p la e s m args below meth c G ad0 A X H locs ad ls had hl hP hD hS
  obtain ⟨hx, hb, hml, hown, hts, hK, hamb, hA, -⟩ := id X
  have hcl : n.toNatClampNeg = N := by rw [hn]; exact nI_clamp hN
  have hz0 : (0 : Int32).toNatClampNeg = 0 := rfl
  refine va_copyi hx hb (hml.trans hl.1.symm) hown (hts _ hl0) (hts _ (gmem 81 (by decide +kernel))) (hts _ (gmem 80 (by decide +kernel))) (hts _ (gmem 19 (by decide +kernel))) hK hP hD hS a0 a1 0 0 (gmw_of h0) (gmw_of h1) rfl rfl rfl (by decide) (by decide) (by rw [hn]; exact nI_pos hN) (by rw [hcl, hz0]; omega) (by rw [hcl, hz0]; omega) (fun _ _ => rfl) hf (by rw [gcats]; exact hlo) hd (fun H1 locs1 hP1 hD1 hS1 => ?_)
  have e1 : va_cpy f g (0 : Int32).toNatClampNeg (0 : Int32).toNatClampNeg n.toNatClampNeg = va_cpy f g 0 0 N := by rw [hcl, hz0]
  rw [e1] at hP1 hD1
  have hP2 : va_P G.1 gcl ((gmw G ad h).set a1 (ad a1, gmc G ad (cI N f))) H1 := by
    intro j q hj
    by_cases hja : j = a1
    · subst hja
      have hlt : j < (gmw G ad h).length := (List.getElem?_eq_some_iff.mp (gmw_of (G := G) (ad := ad) h1)).1
      rw [List.getElem?_set_self hlt] at hj
      cases hj
      have h2 := hP1 j _ (List.getElem?_set_self hlt)
      show H1[ad j]? = some (arrV G.2.1 N (fun j => Value.int (f j)))
      rw [← grow_eq (g := g)]
      exact h2
    · rw [List.getElem?_set_ne (Ne.symm hja)] at hj
      exact hP1 j q (by rw [List.getElem?_set_ne (Ne.symm hja)]; exact hj)
  have hD2 : va_D A ((gmw G ad h).set a1 (ad a1, gmc G ad (cI N f))) := hD.set (gmw_of h1)
  exact k p la e s m args below meth c G ad0 A X H1 locs1 ad ls had hl (hP_set hP2) (hD_set hD2) hS1
/-- the same out of an outer row -/
theorem gW_copyX {i b a1 N : Nat} {n : Int32} {g : Nat → Int32} (hl0 : Cond.methodLink (gown K.1) i arraycopyName ∈ gTs) (hd : decode K.2.2.1 pc = .ok (.invokestatic i, 3)) (hbx : b < 4) (hNx : N = (gx sc b).1) (h1 : h[a1]? = some (cI N g)) (hn : n = nI N) (hN : N < 2 ^ 31) (hf : 1 ≤ R.frames) (hlo : (st.map fun v => v.category).sum + (nativeFrameWords "java/lang/System" "arraycopy" 5 + 11) ≤ R.locals)
    (k : gW K sc R n0 E cs ss (pc + 3) l st (h.set a1 (cI N (gx sc b).2))) : gW K sc R n0 E cs ss pc l (.int n :: .int 0 :: .ref a1 :: .int 0 :: .ref (1000 + b) :: st) h := by
  intro p la e s m args below meth c G ad0 A X H locs ad ls had hl hP hD hS
  obtain ⟨hx, hb, hml, hown, hts, hK, hamb, hA, -⟩ := id X
  have hcl : n.toNatClampNeg = N := by rw [hn]; exact nI_clamp hN
  have hz0 : (0 : Int32).toNatClampNeg = 0 := rfl
  have hn0 : ¬ n < 0 := by rw [hn]; exact nI_pos hN
  have had1 : ad (1000 + b) = ad0 (1000 + b) := had _ (Or.inr (Nat.le_add_right _ _))
  intro T hT Xs
  obtain ⟨row, r1, r2, r3, r4, -, r6, r7⟩ := hamb.2.1 b hbx
  rw [← hNx] at r4 r6
  have hc0 : H[ad0 (1000 + b)]? = some row := by rw [hS.2.1 _ (Array.getElem?_eq_some_iff.mp r1).1 r7]; exact r1
  have hc1 : H[ad a1]? = some (arrV G.2.1 N (fun j => Value.int (g j))) := hP a1 _ (gmw_of h1)
  obtain ⟨r20, ka, hka, cma, hkka⟩ := r2
  obtain ⟨-, kb, hkb, cmb, hkkb⟩ := (hK.2 0 _ rfl).1 N (fun j => .int (g j))
  have hsl : (arrV G.2.1 N (fun j => Value.int (g j))).slots.size = N := arrV_size ..
  have hnI := gint_nn hn0
  rw [hcl] at hnI
  have hzI : (0 : Int32).toInt = 0 := rfl
  obtain ⟨vm', X', step⟩ := Xs.arraycopy hx hown (hts _ hl0) (hts _ (gmem 81 (by decide +kernel))) (hts _ (gmem 80 (by decide +kernel))) (hts _ (gmem 19 (by decide +kernel))) (src := ad0 (1000 + b)) (dst := ad a1) (cs := row) (cd := arrV G.2.1 N (fun j => Value.int (g j))) (srcPos := 0) (destPos := 0) (n := n) (by rw [hT]; exact hc0) (by rw [hT]; exact hc1)
    r20 (fun _ h => by cases h) r3 (fun h => by cases h) hka hkb hkka hkkb (by simp [refKind]) (by decide) (by decide) hn0
    (by rw [hnI, hzI]; omega) (by rw [hnI, hzI, hsl]; omega)
    (fun vm₁ _ i hi => by
      rw [hcl] at hi
      have e1 : row.slots.getD ((0 : Int32).toNatClampNeg + i) .null = .int ((gx sc b).2 i) := by
        rw [hz0, Nat.zero_add, Array.getD_eq_getD_getElem?, r6 i hi]
        rfl
      rw [e1]
      exact ⟨rfl, trivial⟩)
    (g := F0 m pc ls ((Value.int n :: .int 0 :: .ref a1 :: .int 0 :: .ref (1000 + b) :: st).map (gmv ad))) rfl (by rw [hml]; exact hl.1) (rest := st.map (gmv ad)) (by rw [← had1]; rfl) (by rw [hb]; exact hd) hf (by show 2 * 0 + _ + _ ≤ _; rw [gcats]; omega)
  have e1 : copied row (arrV G.2.1 N (fun j => Value.int (g j))) 0 0 n = arrV G.2.1 N (fun j => Value.int ((gx sc b).2 j)) := by
    have h2 := va_copiedX (fun z => Value.int z) row G.2.1 (n1 := N) (n0 := N) (sp := 0) (dp := 0) (n := N) (gx sc b).2 g r6 (by omega)
    have h3 := h2.trans (grow_eq (c := G.2.1) (n := N) (f := (gx sc b).2) (g := g))
    show (arrV G.2.1 N (fun j => Value.int (g j))).storeRun (0 : Int32).toNatClampNeg (row.stretch (0 : Int32).toNatClampNeg n.toNatClampNeg) = _
    rw [hcl, hz0]
    exact h3
  rw [e1] at X' step
  have hlt : ad a1 < H.size := (Array.getElem?_eq_some_iff.mp hc1).1
  have hin : A (ad a1) := hD.2 a1 _ (gmw_of h1)
  have oq : ∀ (x : Cell) (q : Nat), q ≠ ad a1 → (H.setIfInBounds (ad a1) x)[q]? = H[q]? := fun x q hq => by simp [Array.getElem?_setIfInBounds, Ne.symm hq]
  have hP2 : va_P G.1 gcl ((gmw G ad h).set a1 (ad a1, gmc G ad (cI N (gx sc b).2))) (H.setIfInBounds (ad a1) (arrV G.2.1 N (fun j => Value.int ((gx sc b).2 j)))) :=
    hP.set hD (gmw_of h1) (show (H.setIfInBounds (ad a1) _)[ad a1]? = some _ by simp [Array.getElem?_setIfInBounds, hlt]; rfl) (oq _)
  have hD2 : va_D A ((gmw G ad h).set a1 (ad a1, gmc G ad (cI N (gx sc b).2))) := hD.set (gmw_of h1)
  obtain ⟨t, t1, t2⟩ := k p la e s m args below meth c G ad0 A X (H.setIfInBounds (ad a1) (arrV G.2.1 N (fun j => Value.int ((gx sc b).2 j)))) _ ad ls had hl (hP_set hP2) (hD_set hD2) ⟨by simp; exact hS.1, fun q g1 g2 => by
      rw [oq _ q (fun z => g2 (by rw [z]; exact hin))]
      exact hS.2.1 q g1 g2, fun q hq => by
      rcases List.mem_append.mp hq with h | h
      · exact hS.2.2 q h
      · obtain ⟨z, -, hz⟩ := List.mem_map.mp h
        rw [← hz]
        exact hin⟩ _ (by rw [← hT]; rfl) X'
  exact ⟨t, step t t1, t2⟩
end GY
